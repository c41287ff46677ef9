/-! DEEDS THAT ARE DRAWN -/
def rnd (s : Int32) : Int32 := s * 1103515245 + 12345
def dv (s : Int32) (n : Nat) : Nat := s.toBitVec.toNat / 2 ^ 8 % n
theorem jush8 (s : Int32) : jushr s 8 = nI (s.toBitVec.toNat / 2 ^ 8) := by
  have h := pk_ushrN (n := s.toBitVec.toNat) s.toBitVec.isLt (8 : Int32) 8 (by decide)
  rw [← v_nI s] at h
  exact h
theorem dv_at (s : Int32) {n : Nat} (h0 : 0 < n) (hn : n < 100) : jushr s 8 - jushr s 8 / nI n * nI n = nI (dv s n) := by
  have := s.toBitVec.isLt
  rw [jush8, pk_rem (by omega) h0 (by omega)]
  rfl
theorem dv_lt (s : Int32) {n : Nat} (h0 : 0 < n) : dv s n < n := Nat.mod_lt _ h0
theorem below_at {σ : GM} {s : Int32} {n : Nat} (h : σ.1 48 0 = s) (h0 : 0 < n) (hn : n < 100) : f_X1_below σ (nI n) = some (wI σ 48 0 (rnd s), nI (dv (rnd s) n)) := by
  unfold f_X1_below
  have e : (wI σ 48 0 (rnd s)).1 48 0 = rnd s := by rw [wI_1, if_pos ⟨rfl, rfl⟩]
  rw [h, show s * 1103515245 + 12345 = rnd s from rfl, nm_v, i0, le_n h0 (by omega), nz_n h0 (by omega)]
  show some (_, jushr ((wI σ 48 0 (rnd s)).1 48 0) 8 - jushr ((wI σ 48 0 (rnd s)).1 48 0) 8 / nI n * nI n) = _
  rw [e, dv_at _ h0 hn]
theorem draw_at {σ : GM} {s : Int32} {n : Nat} (h : σ.1 60 29 = s) (h0 : 0 < n) (hn : n < 100) : f_X12_draw σ (nI n) = some (wI σ 60 29 (rnd s), nI (dv (rnd s) n)) := by
  unfold f_X12_draw
  have e : (wI σ 60 29 (rnd s)).1 60 29 = rnd s := by rw [wI_1, if_pos ⟨rfl, rfl⟩]
  rw [h, show s * 1103515245 + 12345 = rnd s from rfl, nm_v, nz_n h0 (by omega)]
  show some (_, jushr ((wI σ 60 29 (rnd s)).1 60 29) 8 - jushr ((wI σ 60 29 (rnd s)).1 60 29) 8 / nI n * nI n) = _
  rw [e, dv_at _ h0 hn]
def dRem (N : NT) (p : Nat) : NT × Bool := if N.here.testBit p = true then (N.rem p, true) else (N, false)
def dWt (N : NT) (p w : Nat) : NT × Bool := if N.here.testBit p = true ∧ N.wt p ≠ w then (N.setW p w, true) else (N, false)
def dTk (N : NT) (p q : Nat) : NT × Bool := if N.here.testBit p = true ∧ N.here.testBit q = true ∧ N.bt p q ≠ 0 then (N.setL p q (N.bt p q - 1), true) else (N, false)
def dAd (N : NT) (p q : Nat) : NT × Bool := if N.here.testBit p = true ∧ N.here.testBit q = true ∧ canJ N p q = true then (N.setL p q (N.bt p q + 1), true) else (N, false)
/-- one deed -/
def deedF (N : NT) (s : Int32) : (NT × Bool) × Int32 :=
  if N.told = 0 then ((N, false), rnd s)
  else if dv (rnd s) 8 = 0 then (dRem N (dv (rnd (rnd s)) N.told), rnd (rnd s))
  else if dv (rnd s) 8 = 1 then (dWt N (dv (rnd (rnd s)) N.told) (dv (rnd (rnd (rnd s))) 9 + 1), rnd (rnd (rnd s)))
  else if dv (rnd s) 8 = 2 then (dTk N (dv (rnd (rnd s)) N.told) (dv (rnd (rnd (rnd s))) N.told), rnd (rnd (rnd s)))
  else (dAd N (dv (rnd (rnd s)) N.told) (dv (rnd (rnd (rnd s))) N.told), rnd (rnd (rnd s)))
theorem dRem_no {N : NT} {p : Nat} (h : (dRem N p).2 = false) : (dRem N p).1 = N := by
  unfold dRem at h ⊢
  split
  · rename_i c; rw [if_pos c] at h; cases h
  · rfl
theorem dWt_no {N : NT} {p w : Nat} (h : (dWt N p w).2 = false) : (dWt N p w).1 = N := by
  unfold dWt at h ⊢
  split
  · rename_i c; rw [if_pos c] at h; cases h
  · rfl
theorem dTk_no {N : NT} {p w : Nat} (h : (dTk N p w).2 = false) : (dTk N p w).1 = N := by
  unfold dTk at h ⊢
  split
  · rename_i c; rw [if_pos c] at h; cases h
  · rfl
theorem dAd_no {N : NT} {p w : Nat} (h : (dAd N p w).2 = false) : (dAd N p w).1 = N := by
  unfold dAd at h ⊢
  split
  · rename_i c; rw [if_pos c] at h; cases h
  · rfl
theorem deed_no {N : NT} {s : Int32} (h : (deedF N s).1.2 = false) : (deedF N s).1.1 = N := by
  unfold deedF at h ⊢
  by_cases c0 : N.told = 0
  · rw [if_pos c0]
  · rw [if_neg c0] at h ⊢
    by_cases c1 : dv (rnd s) 8 = 0
    · rw [if_pos c1] at h ⊢; exact dRem_no h
    · rw [if_neg c1] at h ⊢
      by_cases c2 : dv (rnd s) 8 = 1
      · rw [if_pos c2] at h ⊢; exact dWt_no h
      · rw [if_neg c2] at h ⊢
        by_cases c3 : dv (rnd s) 8 = 2
        · rw [if_pos c3] at h ⊢; exact dTk_no h
        · rw [if_neg c3] at h ⊢; exact dAd_no h
theorem so0 (σ : GM) : (some (σ, (0 : Int32) &&& 1) : Option (GM × Int32)) = some (σ, nI (bI false)) := rfl
theorem so1 (σ : GM) : (some (σ, (1 : Int32) &&& 1) : Option (GM × Int32)) = some (σ, nI (bI true)) := rfl
theorem so0n (σ : GM) : (some (σ, (0 : Int32) &&& nI 1) : Option (GM × Int32)) = some (σ, nI (bI false)) := rfl
theorem so1n (σ : GM) : (some (σ, nI 1 &&& nI 1) : Option (GM × Int32)) = some (σ, nI (bI true)) := rfl
/-! the class's -/
def okD (σ σ' : GM) (x : NT × Bool) : Prop := netAt σ' 8 x.1 ∧ wf x.1 ∧ fr σ σ' 8 11
theorem remove_d {σ : GM} {N : NT} (hn : netAt σ 8 N) (hw : wf N) {p : Nat} (hp : p < 12) : ∃ σ', f_X3_remove σ 8 (nI p) = some (σ', nI (bI (dRem N p).2)) ∧ okD σ σ' (dRem N p) := by
  unfold dRem
  by_cases c : N.here.testBit p = true
  · obtain ⟨σ', r1, r2, r3⟩ := remove_at hn hw hp c
    rw [if_pos c]
    exact ⟨σ', r1, r2, rem_wf hw hp, r3⟩
  · rw [if_neg c]
    refine ⟨σ, remove_no hn.2.1 hw.h4096 ?_, hn, hw, fr.rf _ _ _⟩
    rw [inT_n hp]
    exact Bool.eq_false_iff.mpr c
theorem weigh_d {σ : GM} {N : NT} (hn : netAt σ 8 N) (hw : wf N) {p w : Nat} (hp : p < 12) (h1 : 1 ≤ w) (h9 : w ≤ 9) : ∃ σ', f_X3_changeWeight σ 8 (nI p) (nI w) = some (σ', nI (bI (dWt N p w).2)) ∧ okD σ σ' (dWt N p w) := by
  unfold dWt
  by_cases c : N.here.testBit p = true
  · by_cases d : N.wt p ≠ w
    · obtain ⟨σ', r1, r2, r3⟩ := changeWeight_at hn hw hp h9 c d
      rw [if_pos ⟨c, d⟩]
      exact ⟨σ', r1, r2, setW_wf hw h1 h9, r3⟩
    · have d : N.wt p = w := Classical.byContradiction d
      subst d
      rw [if_neg (fun z => z.2 rfl)]
      exact ⟨σ, changeWeight_same hn hw hp c, hn, hw, fr.rf _ _ _⟩
  · rw [if_neg (fun z => c z.1)]
    refine ⟨σ, changeWeight_no hn.2.1 hw.h4096 ?_, hn, hw, fr.rf _ _ _⟩
    rw [inT_n hp]
    exact Bool.eq_false_iff.mpr c
theorem take_d {σ : GM} {N : NT} (hn : netAt σ 8 N) (hw : wf N) {p q : Nat} (hp : p < 12) (hq : q < 12) : ∃ σ', f_X3_takeLine σ 8 (nI p) (nI q) = some (σ', nI (bI (dTk N p q).2)) ∧ okD σ σ' (dTk N p q) := by
  unfold dTk
  by_cases c : N.here.testBit p = true
  · by_cases d : N.here.testBit q = true
    · by_cases e : N.bt p q = 0
      · rw [if_neg (fun z => z.2.2 e)]
        exact ⟨σ, takeLine_0 hn hw hp hq c d e, hn, hw, fr.rf _ _ _⟩
      · obtain ⟨σ', r1, r2, r3⟩ := takeLine_at hn hw hp hq c d e
        rw [if_pos ⟨c, d, e⟩]
        exact ⟨σ', r1, r2, take_wf hw hp hq c d, r3⟩
    · rw [if_neg (fun z => d z.2.1)]
      refine ⟨σ, takeLine_no hn hw (Or.inr ?_), hn, hw, fr.rf _ _ _⟩
      rw [inT_n hq]
      exact Bool.eq_false_iff.mpr d
  · rw [if_neg (fun z => c z.1)]
    refine ⟨σ, takeLine_no hn hw (Or.inl ?_), hn, hw, fr.rf _ _ _⟩
    rw [inT_n hp]
    exact Bool.eq_false_iff.mpr c
theorem add_d {σ : GM} {N : NT} (hn : netAt σ 8 N) (hw : wf N) {p q : Nat} (hp : p < 12) (hq : q < 12) : ∃ σ', f_X3_addLine σ 8 (nI p) (nI q) = some (σ', nI (bI (dAd N p q).2)) ∧ okD σ σ' (dAd N p q) := by
  unfold dAd
  by_cases c : N.here.testBit p = true
  · by_cases d : N.here.testBit q = true
    · obtain ⟨j1, j2⟩ := addLine_at hn hw hp hq c d
      cases e : canJ N p q with
      | false =>
        rw [if_neg (fun z => by cases z.2.2)]
        exact ⟨σ, j2 e, hn, hw, fr.rf _ _ _⟩
      | true =>
        obtain ⟨σ', r1, r2, r3⟩ := j1 e
        rw [if_pos ⟨c, d, rfl⟩]
        exact ⟨σ', r1, r2, canJ_wf hw hp hq c d e, r3⟩
    · rw [if_neg (fun z => d z.2.1)]
      refine ⟨σ, addLine_no hn.2.1 hw.h4096 (Or.inr ?_), hn, hw, fr.rf _ _ _⟩
      rw [inT_n hq]
      exact Bool.eq_false_iff.mpr d
  · rw [if_neg (fun z => c z.1)]
    refine ⟨σ, addLine_no hn.2.1 hw.h4096 (Or.inl ?_), hn, hw, fr.rf _ _ _⟩
    rw [inT_n hp]
    exact Bool.eq_false_iff.mpr c
def frE (σ σ' : GM) : Prop := ∀ m, m < 8 ∨ 11 ≤ m → m ≠ 48 → σ'.1 m = σ.1 m ∧ σ'.2 m = σ.2 m
theorem frE.rf (σ : GM) : frE σ σ := fun _ _ _ => ⟨rfl, rfl⟩
theorem frE.tr {a b c : GM} (h : frE a b) (g : frE b c) : frE a c := fun m h1 h2 => ⟨(g m h1 h2).1.trans (h m h1 h2).1, (g m h1 h2).2.trans (h m h1 h2).2⟩
theorem frE.w {σ : GM} {v : Int32} : frE σ (wI σ 48 0 v) := fun m _ h => wI_other m h
theorem frE.n {σ σ' : GM} (h : fr σ σ' 8 11) : frE σ σ' := fun m h1 _ => h m h1
theorem netAt.w48 {σ : GM} {N : NT} {v : Int32} (h : netAt σ 8 N) : netAt (wI σ 48 0 v) 8 N := h.keep (fr_wI (a := 48) (b := 49) (by omega) (by omega)) (by omega)
theorem w48 {σ : GM} {v : Int32} : (wI σ 48 0 v).1 48 0 = v := by rw [wI_1, if_pos ⟨rfl, rfl⟩]
theorem deed_c {σ : GM} {N : NT} {s : Int32} (hn : netAt σ 8 N) (hw : wf N) (hs : σ.1 48 0 = s) :
    ∃ σ', f_X11_doDeed σ = some (σ', nI (bI (deedF N s).1.2)) ∧ netAt σ' 8 (deedF N s).1.1 ∧ wf (deedF N s).1.1 ∧ σ'.1 48 0 = (deedF N s).2 ∧ frE σ σ' := by
  have ht := hw.1
  have hn1 := hn.w48 (v := rnd s)
  have hb1 := below_at hs (n := 8) (by omega) (by omega)
  have hk := dv_lt (rnd s) (n := 8) (by omega)
  unfold f_X11_doDeed deedF
  rw [show (8 : Int32) = nI 8 from rfl, hb1, ob2_s, hn1.1]
  by_cases c0 : N.told = 0
  · rw [if_pos c0, c0, if_pos (show nI 0 = 0 from rfl)]
    exact ⟨wI σ 48 0 (rnd s), so0 _, hn1, hw, w48, frE.w⟩
  · rw [if_neg c0, if_neg (nI_ne0 (by omega) (by omega)), below_at w48 (show 0 < N.told by omega) (by omega), ob2_s]
    have hn2 := hn1.w48 (v := rnd (rnd s))
    have hp := dv_lt (rnd (rnd s)) (n := N.told) (by omega)
    by_cases c1 : dv (rnd s) 8 = 0
    · rw [if_pos c1, c1, if_pos (show nI 0 = 0 from rfl)]
      obtain ⟨σ', r1, r2, r3, r4⟩ := remove_d hn2 hw (p := dv (rnd (rnd s)) N.told) (by omega)
      rw [r1, ob2_s, nI_bIm]
      refine ⟨σ', rfl, r2, r3, ?_, (frE.w.tr frE.w).tr (frE.n r4)⟩
      rw [(r4 48 (by omega)).1]; exact w48
    · rw [if_neg c1, if_neg (nI_ne0 (by omega) (by omega))]
      by_cases c2 : dv (rnd s) 8 = 1
      · rw [if_pos c2, c2, if_pos (show nI 1 = 1 from rfl), i9, below_at w48 (show 0 < 9 by omega) (by omega), ob2_s, i1, nI_add]
        have hn3 := hn2.w48 (v := rnd (rnd (rnd s)))
        have h9 := dv_lt (rnd (rnd (rnd s))) (n := 9) (by omega)
        obtain ⟨σ', r1, r2, r3, r4⟩ := weigh_d hn3 hw (p := dv (rnd (rnd s)) N.told) (w := dv (rnd (rnd (rnd s))) 9 + 1) (by omega) (by omega) (by omega)
        rw [r1, ob2_s, ← i1, nI_bIm]
        refine ⟨σ', rfl, r2, r3, ?_, ((frE.w.tr frE.w).tr frE.w).tr (frE.n r4)⟩
        rw [(r4 48 (by omega)).1]; exact w48
      · have h1 : ¬ nI (dv (rnd s) 8) = 1 := nI_ne_i (b := 1) (by omega) (by omega) c2
        rw [if_neg c2, if_neg h1, hn2.1, below_at w48 (show 0 < N.told by omega) (by omega), ob2_s]
        have hn3 := hn2.w48 (v := rnd (rnd (rnd s)))
        have hq := dv_lt (rnd (rnd (rnd s))) (n := N.told) (by omega)
        by_cases c3 : dv (rnd s) 8 = 2
        · rw [if_pos c3, c3, if_pos (show nI 2 = 2 from rfl)]
          obtain ⟨σ', r1, r2, r3, r4⟩ := take_d hn3 hw (p := dv (rnd (rnd s)) N.told) (q := dv (rnd (rnd (rnd s))) N.told) (by omega) (by omega)
          rw [r1, ob2_s, nI_bIm]
          refine ⟨σ', rfl, r2, r3, ?_, ((frE.w.tr frE.w).tr frE.w).tr (frE.n r4)⟩
          rw [(r4 48 (by omega)).1]; exact w48
        · have h2 : ¬ nI (dv (rnd s) 8) = 2 := nI_ne_i (b := 2) (by omega) (by omega) c3
          rw [if_neg c3, if_neg h2]
          obtain ⟨σ', r1, r2, r3, r4⟩ := add_d hn3 hw (p := dv (rnd (rnd s)) N.told) (q := dv (rnd (rnd (rnd s))) N.told) (by omega) (by omega)
          rw [r1, ob2_s, nI_bIm]
          refine ⟨σ', rfl, r2, r3, ?_, ((frE.w.tr frE.w).tr frE.w).tr (frE.n r4)⟩
          rw [(r4 48 (by omega)).1]; exact w48
/-! the reference's -/
def keepE (σ σ' : GM) : Prop := (∀ m, m ≠ 60 → m ≠ 62 → σ'.1 m = σ.1 m ∧ σ'.2 m = σ.2 m) ∧ (∀ i, i ≠ 29 → σ'.1 60 i = σ.1 60 i) ∧ σ'.2 60 = σ.2 60
theorem keepE.rf (σ : GM) : keepE σ σ := ⟨fun _ _ _ => ⟨rfl, rfl⟩, fun _ _ => rfl, rfl⟩
theorem keepE.tr {a b c : GM} (h : keepE a b) (g : keepE b c) : keepE a c := ⟨fun m h1 h2 => ⟨(g.1 m h1 h2).1.trans (h.1 m h1 h2).1, (g.1 m h1 h2).2.trans (h.1 m h1 h2).2⟩, fun i hi => (g.2.1 i hi).trans (h.2.1 i hi), g.2.2.trans h.2.2⟩
theorem keepE.w {σ : GM} {v : Int32} : keepE σ (wI σ 60 29 v) := ⟨fun m h _ => wI_other m h, fun i hi => by rw [wI_1, if_neg (by omega)], rfl⟩
theorem keepE.n {σ σ' : GM} (h : fr σ σ' 62 63) : keepE σ σ' := ⟨fun m _ h2 => h m (by omega), fun i _ => by rw [(h 60 (by omega)).1], (h 60 (by omega)).2⟩
theorem keepE.fr {σ σ' : GM} (h : keepE σ σ') : fr σ σ' 60 75 := fun m hm => h.1 m (by omega) (by omega)
theorem keepE.c {σ σ' : GM} (h : keepE σ σ') : keepC σ σ' := ⟨fun m hm => (h.1 m (by omega) (by omega)).1, fun i hi => h.2.1 i (by omega), by rw [(h.1 71 (by omega) (by omega)).1]⟩
theorem rfAt.w29 {σ : GM} {N : NT} {v : Int32} (h : rfAt σ 62 0 N) : rfAt (wI σ 60 29 v) 62 0 N := h.co (wI_other 62 (by omega)).1
theorem w29 {σ : GM} {v : Int32} : (wI σ 60 29 v).1 60 29 = v := by rw [wI_1, if_pos ⟨rfl, rfl⟩]
theorem isThere_n {σ : GM} {h : Nat} (h1 : σ.1 62 1 = nI h) (hh : h < 4096) {p : Nat} (hp : p < 12) : f_X12_isThere σ (nI p) = some (nI (bI (h.testBit p))) := by
  rw [isThere_rf h1 hh, inT_n hp]
theorem deed_r {σ : GM} {N : NT} {s : Int32} (hr : rfAt σ 62 0 N) (hw : wf N) (hs : σ.1 60 29 = s) :
    ∃ σ', f_X12_does σ = some (σ', nI (bI (deedF N s).1.2)) ∧ rfAt σ' 62 0 (deedF N s).1.1 ∧ σ'.1 60 29 = (deedF N s).2 ∧ keepE σ σ' := by
  have ht := hw.1
  have hh := hw.h4096
  have hn1 := hr.w29 (v := rnd s)
  have hb1 := draw_at hs (n := 8) (by omega) (by omega)
  have hk := dv_lt (rnd s) (n := 8) (by omega)
  unfold f_X12_does deedF
  have h0 : (wI σ 60 29 (rnd s)).1 62 (0 : Int32).toNatClampNeg = nI N.told := hn1.1
  rw [show (8 : Int32) = nI 8 from rfl, hb1, ob2_s, show bnd (0 : Int32) 159 = bnd (nI 0) 159 from rfl, bnd_n (by omega) (by omega), h0, nm_v]
  by_cases c0 : N.told = 0
  · rw [if_pos c0, c0, if_pos (show nI 0 = 0 from rfl)]
    exact ⟨wI σ 60 29 (rnd s), so0 _, hn1, w29, keepE.w⟩
  · rw [if_neg c0, if_neg (nI_ne0 (by omega) (by omega)), draw_at w29 (show 0 < N.told by omega) (by omega), ob2_s]
    have hn2 := hn1.w29 (v := rnd (rnd s))
    have hp := dv_lt (rnd (rnd s)) (n := N.told) (by omega)
    by_cases c1 : dv (rnd s) 8 = 0
    · rw [if_pos c1, c1, if_pos (show nI 0 = 0 from rfl), isThere_n hn2.2.1 hh (by omega), ob_s]
      unfold dRem
      by_cases c : N.here.testBit (dv (rnd (rnd s)) N.told) = true
      · obtain ⟨σ', r1, r2, r3⟩ := leaves_at hn2 hw (p := dv (rnd (rnd s)) N.told) (by omega)
        rw [if_pos c, bz_n c, r1, ob_s]
        refine ⟨σ', so1 _, r2, ?_, (keepE.w.tr keepE.w).tr (keepE.n r3)⟩
        rw [(r3 60 (by omega)).1]; exact w29
      · rw [if_neg c, bz_y (Bool.eq_false_iff.mpr c)]
        exact ⟨_, so0 _, hn2, w29, keepE.w.tr keepE.w⟩
    · rw [if_neg c1, if_neg (nI_ne0 (by omega) (by omega))]
      by_cases c2 : dv (rnd s) 8 = 1
      · have hn3 := hn2.w29 (v := rnd (rnd (rnd s)))
        have h9 := dv_lt (rnd (rnd (rnd s))) (n := 9) (by omega)
        rw [if_pos c2, c2, if_pos (show nI 1 = 1 from rfl), i9, draw_at w29 (show 0 < 9 by omega) (by omega), ob2_s, i1, nI_add, nm_v, isThere_n hn3.2.1 hh (by omega), ob_s]
        unfold dWt
        by_cases c : N.here.testBit (dv (rnd (rnd s)) N.told) = true
        · have h4 := hn3.2.2.2.1 (dv (rnd (rnd s)) N.told) hp
          rw [Nat.zero_add] at h4
          have hw9 := hw.2.2.2.1 (dv (rnd (rnd s)) N.told) hp
          rw [bz_n c, i3, nI_add, nm_v, bnd_n (by omega) (by omega), nI_clamp (by omega), h4]
          by_cases d : N.wt (dv (rnd (rnd s)) N.told) = dv (rnd (rnd (rnd s))) 9 + 1
          · rw [eq_y d, if_neg (fun z => z.2 d)]
            exact ⟨_, so0n _, hn3, w29, (keepE.w.tr keepE.w).tr keepE.w⟩
          · rw [eq_n d (by omega) (by omega), if_pos ⟨c, d⟩, bnd_n (by omega) (by omega), nm_v]
            have hf : fr (wI (wI (wI σ 60 29 (rnd s)) 60 29 (rnd (rnd s))) 60 29 (rnd (rnd (rnd s)))) (wI (wI (wI (wI σ 60 29 (rnd s)) 60 29 (rnd (rnd s))) 60 29 (rnd (rnd (rnd s)))) 62 (3 + dv (rnd (rnd s)) N.told) (nI (dv (rnd (rnd (rnd s))) 9 + 1))) 62 63 := fr_wI (by omega) (by omega)
            refine ⟨_, so1n _, setW_rf hn3 (by omega) ht, ?_, ((keepE.w.tr keepE.w).tr keepE.w).tr (keepE.n hf)⟩
            rw [(hf 60 (by omega)).1]; exact w29
        · rw [bz_y (Bool.eq_false_iff.mpr c), if_neg (fun z => c z.1)]
          exact ⟨_, so0n _, hn3, w29, (keepE.w.tr keepE.w).tr keepE.w⟩
      · have h1 : ¬ nI (dv (rnd s) 8) = 1 := nI_ne_i (b := 1) (by omega) (by omega) c2
        have hn3 := hn2.w29 (v := rnd (rnd (rnd s)))
        have hq := dv_lt (rnd (rnd (rnd s))) (n := N.told) (by omega)
        have hB := hw.b20 (dv (rnd (rnd s)) N.told) (dv (rnd (rnd (rnd s))) N.told)
        rw [if_neg c2, if_neg h1, draw_at w29 (show 0 < N.told by omega) (by omega), ob2_s, isThere_n hn3.2.1 hh (show dv (rnd (rnd s)) N.told < 12 by omega), ob_s]
        have stop : ∀ x : NT × Bool, x = (N, false) → ∃ σ', (some (wI (wI (wI σ 60 29 (rnd s)) 60 29 (rnd (rnd s))) 60 29 (rnd (rnd (rnd s))), ((0 : Int32) &&& 1)) : Option (GM × Int32)) = some (σ', nI (bI x.2)) ∧ rfAt σ' 62 0 x.1 ∧ σ'.1 60 29 = rnd (rnd (rnd s)) ∧ keepE σ σ' := by
          rintro x rfl
          exact ⟨_, so0 _, hn3, w29, (keepE.w.tr keepE.w).tr keepE.w⟩
        by_cases c : N.here.testBit (dv (rnd (rnd s)) N.told) = true
        · rw [bz_n c, isThere_n hn3.2.1 hh (show dv (rnd (rnd (rnd s))) N.told < 12 by omega), ob_s]
          by_cases d : N.here.testBit (dv (rnd (rnd (rnd s))) N.told) = true
          · rw [bz_n d]
            by_cases c3 : dv (rnd s) 8 = 2
            · rw [if_pos c3, c3, if_pos (show nI 2 = 2 from rfl), between_at hn3.rb (by omega) (by omega), ob_s]
              unfold dTk
              by_cases e : N.bt (dv (rnd (rnd s)) N.told) (dv (rnd (rnd (rnd s))) N.told) = 0
              · rw [e, if_pos (show nI 0 = 0 from rfl), if_neg (fun z => z.2.2 rfl)]
                exact stop _ rfl
              · obtain ⟨σ', t1, t2, t3⟩ := adds_at (m := N.bt (dv (rnd (rnd s)) N.told) (dv (rnd (rnd (rnd s))) N.told) - 1) (v := -1) hn3 hw.2.2.2.2.1 (a := dv (rnd (rnd s)) N.told) (b := dv (rnd (rnd (rnd s))) N.told) (by omega) (by omega) ht (by
                  have h := pk_m1 (N.bt (dv (rnd (rnd s)) N.told) (dv (rnd (rnd (rnd s))) N.told) - 1)
                  rw [show N.bt (dv (rnd (rnd s)) N.told) (dv (rnd (rnd (rnd s))) N.told) - 1 + 1 = N.bt (dv (rnd (rnd s)) N.told) (dv (rnd (rnd (rnd s))) N.told) by omega] at h
                  exact h)
                rw [if_neg (nI_ne0 (by omega) (by omega)), if_pos ⟨c, d, e⟩]
                unfold f_X12_does_L157
                rw [if_pos (show nI 2 = 2 from rfl), t1, ob_s]
                refine ⟨σ', so1 _, t2, ?_, ((keepE.w.tr keepE.w).tr keepE.w).tr (keepE.n t3)⟩
                rw [(t3 60 (by omega)).1]; exact w29
            · have h2 : ¬ nI (dv (rnd s) 8) = 2 := nI_ne_i (b := 2) (by omega) (by omega) c3
              rw [if_neg c3, if_neg h2, mayJoin_at hn3 hw (by omega) (by omega), ob_s]
              unfold dAd
              cases e : canJ N (dv (rnd (rnd s)) N.told) (dv (rnd (rnd (rnd s))) N.told) with
              | false =>
                rw [bz_y rfl, if_neg (fun z => by cases z.2.2)]
                exact stop _ rfl
              | true =>
                obtain ⟨σ', t1, t2, t3⟩ := adds_at (m := N.bt (dv (rnd (rnd s)) N.told) (dv (rnd (rnd (rnd s))) N.told) + 1) (v := 1) hn3 hw.2.2.2.2.1 (a := dv (rnd (rnd s)) N.told) (b := dv (rnd (rnd (rnd s))) N.told) (by omega) (by omega) ht (by rw [i1, nI_add])
                rw [bz_n rfl, if_pos ⟨c, d, rfl⟩]
                unfold f_X12_does_L157
                rw [if_neg h2, t1, ob_s]
                refine ⟨σ', so1 _, t2, ?_, ((keepE.w.tr keepE.w).tr keepE.w).tr (keepE.n t3)⟩
                rw [(t3 60 (by omega)).1]; exact w29
          · rw [bz_y (Bool.eq_false_iff.mpr d)]
            by_cases c3 : dv (rnd s) 8 = 2
            · rw [if_pos c3]
              exact stop _ (by unfold dTk; rw [if_neg (fun z => d z.2.1)])
            · rw [if_neg c3]
              exact stop _ (by unfold dAd; rw [if_neg (fun z => d z.2.1)])
        · rw [bz_y (Bool.eq_false_iff.mpr c)]
          by_cases c3 : dv (rnd s) 8 = 2
          · rw [if_pos c3]
            exact stop _ (by unfold dTk; rw [if_neg (fun z => c z.1)])
          · rw [if_neg c3]
            exact stop _ (by unfold dAd; rw [if_neg (fun z => c z.1)])
