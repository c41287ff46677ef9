/-! CUTS: the lightest, and all the fewest -/
theorem wS_mono {w : Nat → Nat} {s t : Nat} (h : subS s t) : wS w s ≤ wS w t := sm_mono _ (fun i _ => by
  cases e : s.testBit i with
  | false => simp [bI]
  | true => rw [h i e]; exact Nat.le_refl _)
theorem wS_lt {w : Nat → Nat} {s t : Nat} (h : subS s t) (ht : t < 4096) (hp : ∀ i, t.testBit i = true → 1 ≤ w i) (hne : s ≠ t) : wS w s < wS w t := by
  have : ∃ i, t.testBit i = true ∧ s.testBit i = false := by
    refine Classical.byContradiction (fun hn => hne ?_)
    apply Nat.eq_of_testBit_eq
    intro i
    cases e : t.testBit i with
    | false =>
      cases f : s.testBit i with
      | false => rfl
      | true => have := h i f; rw [e] at this; cases this
    | true =>
      cases f : s.testBit i with
      | true => rfl
      | false => exact absurd ⟨i, e, f⟩ hn
  obtain ⟨i, h1, h2⟩ := this
  refine sm_lt (k := i) (fun j _ => ?_) (tb_lt (n := 12) h1 ht) ?_
  · cases e : s.testBit j with
    | false => simp [bI]
    | true => rw [h j e]; exact Nat.le_refl _
  · rw [h1, h2]
    have := hp i h1
    simp only [bI_t, bI_f, Nat.zero_mul, Nat.one_mul]
    omega
theorem dif_self {h : Nat} (hh : h < 4096) : dif h h = 0 := (sub_dif (b32 hh)).mpr (fun _ q => q)
theorem cut_all {B : Nat → Nat → Nat} {h : Nat} (hh : h < 4096) : cutV B h 0 h := ⟨fun _ q => q, Nat.and_zero h, by rw [dif_self hh]; exact fB_t.mp (fB_0 B)⟩
theorem areThere_n {σ : GM} {n h q : Nat} (h1 : σ.1 n 3 = nI h) (hq : q < 4096) : f_X3_areThere σ n (nI q) = some (nI (bI (decide (dif q h = 0)))) := by
  rw [areThere_any h1, inS_n hq]
  congr 3
  by_cases e : dif q h = 0
  · rw [decide_eq_true e, decide_eq_true (sub_and.mpr ((sub_dif (b32 hq)).mp e))]
  · rw [decide_eq_false e, decide_eq_false (fun z => e ((sub_dif (b32 hq)).mpr (sub_and.mp z)))]
theorem lightest_L {σ : GM} {N : NT} (hn : netAt σ 8 N) (hw : wf N) (ht : frT σ N.bt N.here) :
    ∃ r x, f_X11_lightestCut_L25 5000 σ (nI N.here) (nI (wS N.wt N.here)) (0 : Int32) = some (σ, r) ∧ bst N.bt N.here 0 (wS N.wt) (N.here + 1) r x := by
  have hh := hw.h4096
  have h8 := hn.2.1
  have hw9 : ∀ v, subS v N.here → wS N.wt v ≤ 108 := fun v hv => wS_le (fun i hi => (hw.2.2.2.1 i (here_told hw (hv i hi))).2)
  refine lq5 (N.here + 1) (by omega) (fun k (a : Int32 × Int32) i => f_X11_lightestCut_L25 k σ a.1 a.2 i) (fun q a => ∃ x, a.2 = nI x ∧ x ≤ 108 ∧ ((a.1 = nI N.here ∧ x = wS N.wt N.here ∧ ∀ v, v < q → cutV N.bt N.here 0 v → wS N.wt N.here ≤ wS N.wt v) ∨ (a.1 ≠ -1 ∧ bst N.bt N.here 0 (wS N.wt) q a.1 x))) (fun z => ∃ r x, z = some (σ, r) ∧ bst N.bt N.here 0 (wS N.wt) (N.here + 1) r x) (nI N.here, nI (wS N.wt N.here)) ⟨_, rfl, hw9 _ (fun _ q => q), Or.inl ⟨rfl, rfl, fun v hv => absurd hv (by omega)⟩⟩ ?_ ?_
  · intro k q a hq ⟨x, g3, g4, g1⟩
    have hq4 : q < 4096 := by omega
    have hfr := isFree_at (σ := σ) (B := N.bt) (dif_lt (b := q) (n := 12) hh) (ht _ (dif_sub hh))
    have skip : (cutV N.bt N.here 0 q → x ≤ wS N.wt q) → ∃ x, a.2 = nI x ∧ x ≤ 108 ∧ ((a.1 = nI N.here ∧ x = wS N.wt N.here ∧ ∀ v, v < q + 1 → cutV N.bt N.here 0 v → wS N.wt N.here ≤ wS N.wt v) ∨ (a.1 ≠ -1 ∧ bst N.bt N.here 0 (wS N.wt) (q + 1) a.1 x)) := by
      intro hs
      refine ⟨x, g3, g4, ?_⟩
      rcases g1 with ⟨g5, g6, g7⟩ | ⟨g5, g6⟩
      · left
        refine ⟨g5, g6, fun v hv hc => ?_⟩
        by_cases e : v = q
        · subst e; have := hs hc; omega
        · exact g7 v (by omega) hc
      · right
        exact ⟨g5, bst_skip g6 (fun hc => ⟨g5, hs hc⟩)⟩
    by_cases c1 : dif q N.here = 0
    · have hsub := (sub_dif (b32 hq4)).mp c1
      have h9 := hw9 q hsub
      cases c4 : fB N.bt (dif N.here q) with
      | false =>
        refine Or.inl ⟨a, skip (fun c => by have := ((cut_dec hq4).mp c).2.2; rw [c4] at this; cases this), fun r hr => ?_⟩
        unfold f_X11_lightestCut_L25
        rw [h8, lt_n (by omega) (by omega), areThere_n h8 hq4, ob_s, bz_n (decide_eq_true c1), nI_dif, hfr, ob_s, bz_y c4, nm_v, i1, nI_add]
        exact hr
      | true =>
        by_cases c3 : x ≤ wS N.wt q
        · refine Or.inl ⟨a, skip (fun _ => c3), fun r hr => ?_⟩
          unfold f_X11_lightestCut_L25
          rw [h8, lt_n (by omega) (by omega), areThere_n h8 hq4, ob_s, bz_n (decide_eq_true c1), nI_dif, hfr, ob_s, bz_n c4, weightOfSet_at hn hw (sub_and.mpr hsub), ob_s, g3, le_y c3 (by omega), nm_v, i1, nI_add, ← g3]
          exact hr
        · have hc : cutV N.bt N.here 0 q := (cut_dec hq4).mpr ⟨c1, Nat.and_zero q, c4⟩
          refine Or.inl ⟨(nI q, nI (wS N.wt q)), ⟨_, rfl, h9, Or.inr ⟨m1_ne (by omega), ?_⟩⟩, fun r hr => ?_⟩
          · rcases g1 with ⟨g5, g6, g7⟩ | ⟨g5, g6⟩
            · right
              refine ⟨q, rfl, rfl, by omega, hc, fun v hv hcv => ?_⟩
              by_cases e : v = q
              · subst e; exact ⟨Nat.le_refl _, fun _ => Nat.le_refl _⟩
              · have := g7 v (by omega) hcv
                exact ⟨by omega, fun _ => by omega⟩
            · exact bst_new hh g6 hc (Or.inr (by omega))
          · unfold f_X11_lightestCut_L25
            rw [h8, lt_n (by omega) (by omega), areThere_n h8 hq4, ob_s, bz_n (decide_eq_true c1), nI_dif, hfr, ob_s, bz_n c4, weightOfSet_at hn hw (sub_and.mpr hsub), ob_s, g3, le_n (by omega) (by omega), nm_v, i1, nI_add]
            exact hr
    · refine Or.inl ⟨a, skip (fun c => absurd ((sub_dif (b32 hq4)).mpr c.1) c1), fun r hr => ?_⟩
      unfold f_X11_lightestCut_L25
      rw [h8, lt_n (by omega) (by omega), areThere_n h8 hq4, ob_s, bz_y (decide_eq_false c1), nm_v, i1, nI_add]
      exact hr
  · intro k a ⟨x, g3, g4, g1⟩
    refine ⟨a.1, x, ?_, ?_⟩
    · show f_X11_lightestCut_L25 (k + 1) σ a.1 a.2 (nI (N.here + 1)) = _
      unfold f_X11_lightestCut_L25
      rw [h8, lt_y (by omega) (by omega)]
    · rcases g1 with ⟨g5, g6, g7⟩ | ⟨g5, g6⟩
      · right
        refine ⟨N.here, g5, g6, by omega, cut_all hh, fun v hv hc => ⟨g7 v hv hc, fun e => ?_⟩⟩
        by_cases f : v = N.here
        · omega
        · have := wS_lt hc.1 hh (fun i hi => (hw.2.2.2.1 i (here_told hw hi)).1) f
          omega
      · exact g6
/-- how many, what they share, what they make up -/
def thF (p : Nat → Bool) (h : Nat) : Nat → Nat × Nat × Nat
  | 0 => (0, h, 0)
  | q + 1 => if p q then ((thF p h q).1 + 1, (thF p h q).2.1 &&& q, (thF p h q).2.2 ||| q) else thF p h q
theorem thF_y {p : Nat → Bool} {h q : Nat} (e : p q = true) : thF p h (q + 1) = ((thF p h q).1 + 1, (thF p h q).2.1 &&& q, (thF p h q).2.2 ||| q) := by rw [thF, if_pos e]
theorem thF_n {p : Nat → Bool} {h q : Nat} (e : p q = false) : thF p h (q + 1) = thF p h q := by rw [thF, e]; rfl
noncomputable def thP (B : Nat → Nat → Nat) (h m v : Nat) : Bool := decide (dif v h = 0) && (decide (pc v 12 = m) && fB B (dif h v))
def pick3 (v : Int32) (t : Nat × Nat × Nat) : Int32 := if v = 0 then nI t.1 else if v = 1 then nI t.2.1 else nI t.2.2
theorem thoseC_L {σ : GM} {B : Nat → Nat → Nat} {h m : Nat} (v1 : Int32) (h8 : σ.1 8 3 = nI h) (hh : h < 4096) (hm : m ≤ 12) (ht : frT σ B h) :
    f_X11_those_L50 v1 (nI m) 5000 σ (0 : Int32) (nI h) (0 : Int32) (0 : Int32) = some (σ, pick3 v1 (thF (thP B h m) h (h + 1))) := by
  refine lq5 (h + 1) (by omega) (fun k (a : Int32 × Int32 × Int32) i => f_X11_those_L50 v1 (nI m) k σ a.1 a.2.1 a.2.2 i) (fun q a => a = (nI (thF (thP B h m) h q).1, nI (thF (thP B h m) h q).2.1, nI (thF (thP B h m) h q).2.2)) (fun z => z = some (σ, pick3 v1 (thF (thP B h m) h (h + 1)))) (nI 0, nI h, nI 0) rfl ?_ ?_
  · intro k q a hq ha
    subst ha
    have hq4 : q < 4096 := by omega
    have hpc := pc_le q 12
    have hfr := isFree_at (σ := σ) (B := B) (dif_lt (b := q) (n := 12) hh) (ht _ (dif_sub hh))
    refine Or.inl ⟨_, rfl, fun r hr => ?_⟩
    unfold f_X11_those_L50
    rw [h8, lt_n (by omega) (by omega), areThere_n h8 hq4, ob_s]
    by_cases c1 : dif q h = 0
    · rw [bz_n (decide_eq_true c1), bitCount_at hq4, ob_s]
      by_cases c2 : pc q 12 = m
      · rw [eq_y c2, nI_dif, hfr, ob_s]
        cases c4 : fB B (dif h q) with
        | false =>
          rw [thF_n (by unfold thP; rw [c4, Bool.and_false, Bool.and_false])] at hr
          rw [bz_y rfl, nm_v, i1, nI_add]
          exact hr
        | true =>
          rw [thF_y (by unfold thP; rw [c4, decide_eq_true c1, decide_eq_true c2]; rfl)] at hr
          rw [bz_n rfl, nm_v, nm_v, nm_v, nm_v, i1, nI_add, nI_add, nI_land, nI_lor]
          exact hr
      · rw [thF_n (by unfold thP; rw [decide_eq_false c2, Bool.false_and, Bool.and_false])] at hr
        rw [eq_n c2 (by omega) (by omega), nm_v, i1, nI_add]
        exact hr
    · rw [thF_n (by unfold thP; rw [decide_eq_false c1, Bool.false_and])] at hr
      rw [bz_y (decide_eq_false c1), nm_v, i1, nI_add]
      exact hr
  · intro k a ha
    subst ha
    show f_X11_those_L50 v1 (nI m) (k + 1) σ _ _ _ (nI (h + 1)) = _
    unfold f_X11_those_L50 f_X11_those_L125 pick3
    rw [h8, lt_y (by omega) (by omega)]
    split
    · rfl
    · split <;> rfl
theorem there_at {σ : GM} {h : Nat} (h1 : σ.1 62 1 = nI h) : f_X12_there σ = some (nI h) := by
  unfold f_X12_there
  rw [i1, bnd_n (by omega) (by omega), nI_clamp (by omega), h1]
theorem thoseR_L {σ : GM} {N : NT} {m : Nat} (v1 : Int32) (hr : rfAt σ 62 0 N) (hw : wf N) (hm : m ≤ 12) :
    f_X12_those_L44 v1 (nI m) 5000 σ (0 : Int32) (nI N.here) (0 : Int32) (0 : Int32) = some (σ, pick3 v1 (thF (thP N.bt N.here m) N.here (N.here + 1))) := by
  have hh := hw.h4096
  have hth := there_at (show σ.1 62 1 = nI N.here from hr.2.1)
  refine lq5 (N.here + 1) (by omega) (fun k (a : Int32 × Int32 × Int32) i => f_X12_those_L44 v1 (nI m) k σ a.1 a.2.1 a.2.2 i) (fun q a => a = (nI (thF (thP N.bt N.here m) N.here q).1, nI (thF (thP N.bt N.here m) N.here q).2.1, nI (thF (thP N.bt N.here m) N.here q).2.2)) (fun z => z = some (σ, pick3 v1 (thF (thP N.bt N.here m) N.here (N.here + 1)))) (nI 0, nI N.here, nI 0) rfl ?_ ?_
  · intro k q a hq ha
    subst ha
    have hq4 : q < 4096 := by omega
    have hpc := pc_le q 12
    have hdl := dif_lt (b := N.here) (n := 12) hq4
    have hcut := isCut_at hr.rb hw.b20 hw.2.2.2.2.1 (u := q) hh (b := fB N.bt (dif N.here q)) fB_t
    refine Or.inl ⟨_, rfl, fun r hr => ?_⟩
    unfold f_X12_those_L44
    rw [hth, ob_s, lt_n (by omega) (by omega), ob_s, nI_dif]
    by_cases c1 : dif q N.here = 0
    · rw [c1, if_pos (show nI 0 = 0 from rfl), bits_at hq4, ob_s]
      by_cases c2 : pc q 12 = m
      · rw [eq_y c2, ob_s, hcut, ob_s]
        cases c4 : fB N.bt (dif N.here q) with
        | false =>
          rw [thF_n (by unfold thP; rw [c4, Bool.and_false, Bool.and_false])] at hr
          rw [bz_y rfl, nm_v, i1, nI_add]
          exact hr
        | true =>
          rw [thF_y (by unfold thP; rw [c4, decide_eq_true c1, decide_eq_true c2]; rfl)] at hr
          rw [bz_n rfl, nm_v, nm_v, nm_v, nm_v, i1, nI_add, nI_add, nI_land, nI_lor]
          exact hr
      · rw [thF_n (by unfold thP; rw [decide_eq_false c2, Bool.false_and, Bool.and_false])] at hr
        rw [eq_n c2 (by omega) (by omega), nm_v, i1, nI_add]
        exact hr
    · rw [thF_n (by unfold thP; rw [decide_eq_false c1, Bool.false_and])] at hr
      rw [i0, eq_n c1 (by omega) (by omega), nm_v, i1, nI_add]
      exact hr
  · intro k a ha
    subst ha
    show f_X12_those_L44 v1 (nI m) (k + 1) σ _ _ _ (nI (N.here + 1)) = _
    unfold f_X12_those_L44 f_X12_those_L113 pick3
    rw [hth, ob_s, lt_y (by omega) (by omega)]
    split
    · rfl
    · split <;> rfl
