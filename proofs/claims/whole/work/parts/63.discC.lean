/-! THE DISCOUNT, as the class takes it -/
def clP (σ : GM) (y : PiT) : Prop := σ.1 57 3 = nI y.1 ∧ σ.1 57 2 = nI y.2.1 ∧ ∀ i, i < y.2.1 → σ.1 59 i = nI (y.2.2 i)
def clW (σ : GM) (S : Nat) (w : Nat → Nat) : Prop := ∀ i, S.testBit i = true → σ.2 58 i = lN (w i)
theorem nI_dn0 : (nI 0 + (-1) : Int32) < 0 := by decide
theorem nI_dn (q : Nat) : nI (q + 1) + (-1) = nI q := pk_m1 q
theorem lcw_y {α : Type} {a : Nat} {x y : α} (h : a = 0) : (if lg_cmp (lN a) (0 : Int64) = (0 : Int32) then x else y) = x := by subst h; exact lcz_y
theorem pileC_L {w : Nat → Nat} {S0 : Nat} (hS0 : S0 < 4096) (hwl : ∀ i, S0.testBit i = true → w i < 2 ^ 63) : ∀ (q k : Nat) (y : PiT) (σ : GM), q ≤ 12 → q < k → subS y.1 S0 → y.2.1 + pc y.1 12 ≤ 12 → clP σ y → clW σ S0 w →
    ∃ σ', f_X0_pileWeightless_L8 k σ (nI q + (-1)) = some σ' ∧ clP σ' (pilF w q y) ∧ fr σ σ' 57 60 ∧ σ'.2 = σ.2 ∧ σ'.1 58 = σ.1 58 := by
  intro q
  induction q with
  | zero =>
    intro k y σ _ hk _ _ hP _
    obtain ⟨k, rfl⟩ : ∃ k', k = k' + 1 := ⟨k - 1, by omega⟩
    refine ⟨σ, ?_, hP, fr.rf _ _ _, rfl, rfl⟩
    unfold f_X0_pileWeightless_L8
    rw [if_pos nI_dn0]
  | succ q ih =>
    intro k y σ hq hk hs hc hP hW
    obtain ⟨k, rfl⟩ : ∃ k', k = k' + 1 := ⟨k - 1, by omega⟩
    have hy4 := subS_lt hs hS0
    obtain ⟨g1, g2, g3⟩ := hP
    rw [nI_dn]
    by_cases c : (y.1.testBit q && decide (w q = 0)) = true
    · have e1 : pil1 w q y = (dif y.1 (2 ^ q), y.2.1 + 1, fun i => if i = y.2.1 then q else y.2.2 i) := by unfold pil1; rw [if_pos c]
      rw [Bool.and_eq_true, decide_eq_true_iff] at c
      obtain ⟨c1, c2⟩ := c
      have hpt := pc_tip hy4 c1
      have hP' : clP (wI (wI (wI σ 57 3 (nI (dif y.1 (2 ^ q)))) 59 y.2.1 (nI q)) 57 2 (nI (y.2.1 + 1))) (dif y.1 (2 ^ q), y.2.1 + 1, fun i => if i = y.2.1 then q else y.2.2 i) := by
        refine ⟨?_, ?_, fun i hi => ?_⟩
        · rw [wI_1, if_neg (by omega), wI_1, if_neg (by omega), wI_1, if_pos ⟨rfl, rfl⟩]
        · rw [wI_1, if_pos ⟨rfl, rfl⟩]
        · have hi : i < y.2.1 + 1 := hi
          rw [wI_1, if_neg (by omega), wI_1]
          show _ = nI (if i = y.2.1 then q else y.2.2 i)
          by_cases e : i = y.2.1
          · rw [if_pos ⟨rfl, e⟩, if_pos e]
          · rw [if_neg (fun z => e z.2), if_neg e, wI_1, if_neg (by omega)]
            exact g3 i (by omega)
      obtain ⟨σ', r1, r2, r3, r4, r5⟩ := ih k (pil1 w q y) (wI (wI (wI σ 57 3 (nI (dif y.1 (2 ^ q)))) 59 y.2.1 (nI q)) 57 2 (nI (y.2.1 + 1))) (by omega) (by omega) (by rw [e1]; exact subS_tr (dif_sub hy4) hs) (by rw [pil1_c hy4]; exact hc) (by rw [e1]; exact hP') (fun i hi => hW i hi)
      refine ⟨σ', ?_, r2, (((fr_wI (by omega) (by omega)).trans (fr_wI (by omega) (by omega))).trans (fr_wI (by omega) (by omega))).trans r3, r4, by rw [r5]; funext i; rw [wI_1, if_neg (by omega), wI_1, if_neg (by omega), wI_1, if_neg (by omega)]⟩
      unfold f_X0_pileWeightless_L8
      have hq0 : ¬ nI q < 0 := nI_pos (by omega)
      rw [if_neg hq0, g1, holds_at hy4 (by omega), ob_s, bz_n c1, bnd_n (by omega) (by omega), nI_clamp (by omega), hW q (hs q c1), lcw_y c2, g2, i12, le_n (by omega) (by omega), nI_bit (by omega), nI_dif, nm_v]
      have h2 : (wI σ 57 3 (nI (dif y.1 (2 ^ q)))).1 57 2 = nI y.2.1 := by rw [wI_1, if_neg (by omega)]; exact g2
      rw [h2, bnd_n (by omega) (by omega), nm_v, nI_clamp (by omega)]
      have h3 : (wI (wI σ 57 3 (nI (dif y.1 (2 ^ q)))) 59 y.2.1 (nI q)).1 57 2 = nI y.2.1 := by rw [wI_1, if_neg (by omega)]; exact h2
      rw [h3, i1, nI_add, nm_v, nm_v]
      exact r1
    · have e1 : pil1 w q y = y := by unfold pil1; rw [if_neg c]
      obtain ⟨σ', r1, r2, r3, r4, r5⟩ := ih k y σ (by omega) (by omega) hs hc ⟨g1, g2, g3⟩ hW
      refine ⟨σ', ?_, by rw [pilF, e1]; exact r2, r3, r4, r5⟩
      have hq0 : ¬ nI q < 0 := nI_pos (by omega)
      unfold f_X0_pileWeightless_L8
      rw [if_neg hq0, g1, holds_at hy4 (by omega), ob_s]
      cases d : y.1.testBit q with
      | false => rw [bz_y rfl, nm_v]; exact r1
      | true =>
        have hw0 : w q ≠ 0 := fun z => c (by rw [d, decide_eq_true z]; rfl)
        rw [bz_n rfl, bnd_n (by omega) (by omega), nI_clamp (by omega), hW q (hs q d), lcz_n hw0 (hwl q (hs q d)), nm_v]
        exact r1
theorem pileC_at {w : Nat → Nat} {y : PiT} {σ : GM} (hS : y.1 < 4096) (hwl : ∀ i, y.1.testBit i = true → w i < 2 ^ 63) (hc : y.2.1 + pc y.1 12 ≤ 12) (hP : clP σ y) (hW : clW σ y.1 w) :
    ∃ σ', f_X0_pileWeightless σ = some σ' ∧ clP σ' (pilF w 12 y) ∧ fr σ σ' 57 60 ∧ σ'.2 = σ.2 ∧ σ'.1 58 = σ.1 58 := by
  obtain ⟨σ', r1, r2⟩ := pileC_L hS hwl 12 5000 y σ (by omega) (by omega) (fun _ h => h) hc hP hW
  refine ⟨σ', ?_, r2⟩
  unfold f_X0_pileWeightless
  rw [nm_v, show (12 : Int32) - (1 : Int32) = nI 12 + (-1) from by decide]
  exact r1
/-! the ring's step -/
theorem dW_1 {C p : Nat} {w : Nat → Nat} : dW C (fun _ => 1) p w = fun i => if C.testBit i = true then w i - w p else w i := by
  funext i
  unfold dW
  rw [Nat.mul_one, Nat.mul_one]
theorem ringC_44 {r S p U : Nat} {w : Nat → Nat} {σ : GM} (hr : r < 4096) (hrS : subS r S) (hmin : ∀ i, r.testBit i = true → w p ≤ w i) (hW : clW σ S w) (hU : σ.2 57 5 = lN U) :
    ∃ σ', f_X0_takeFromRing_L47 (nI r) (lN (w p)) 5000 σ (0 : Int32) = some σ' ∧ clW σ' S (dW r (fun _ => 1) p w) ∧ σ'.2 57 5 = lN (U + w p) ∧ σ'.1 = σ.1 ∧ (∀ m i, ¬ (m = 58 ∨ (m = 57 ∧ i = 5)) → σ'.2 m i = σ.2 m i) := by
  refine lq5 12 (by omega) (fun k (a : GM) i => f_X0_takeFromRing_L47 (nI r) (lN (w p)) k a i) (fun q a => (∀ i, S.testBit i = true → a.2 58 i = lN (if i < q then dW r (fun _ => 1) p w i else w i)) ∧ a.2 57 5 = lN U ∧ a.1 = σ.1 ∧ (∀ m i, ¬ (m = 58 ∨ (m = 57 ∧ i = 5)) → a.2 m i = σ.2 m i)) (fun z => ∃ σ', z = some σ' ∧ clW σ' S (dW r (fun _ => 1) p w) ∧ σ'.2 57 5 = lN (U + w p) ∧ σ'.1 = σ.1 ∧ (∀ m i, ¬ (m = 58 ∨ (m = 57 ∧ i = 5)) → σ'.2 m i = σ.2 m i)) σ ⟨fun i hi => by rw [if_neg (by omega)]; exact hW i hi, hU, rfl, fun _ _ _ => rfl⟩ ?_ ?_
  · intro k q a hq ⟨g1, g2, g3, g4⟩
    cases c : r.testBit q with
    | false =>
      refine Or.inl ⟨a, ⟨fun i hi => ?_, g2, g3, g4⟩, fun z hz => ?_⟩
      · rw [g1 i hi]
        by_cases e : i = q
        · subst e
          rw [if_neg (by omega), if_pos (by omega), dW_1]
          show _ = lN (if r.testBit i = true then _ else _)
          rw [if_neg (by rw [c]; decide)]
        · by_cases f : i < q
          · rw [if_pos f, if_pos (by omega)]
          · rw [if_neg f, if_neg (by omega)]
      · unfold f_X0_takeFromRing_L47
        rw [i12, le_n hq (by omega), holds_at hr hq, ob_s, bz_y c, nm_v, i1, nI_add]
        exact hz
    | true =>
      refine Or.inl ⟨wL a 58 q (lN (w q - w p)), ⟨fun i hi => ?_, ?_, g3, fun m i h => ?_⟩, fun z hz => ?_⟩
      · rw [wL_2]
        by_cases e : i = q
        · subst e
          rw [if_pos ⟨rfl, rfl⟩, if_pos (by omega), dW_1]
          show _ = lN (if r.testBit i = true then _ else _)
          rw [if_pos c]
        · rw [if_neg (fun x => e x.2), g1 i hi]
          by_cases f : i < q
          · rw [if_pos f, if_pos (by omega)]
          · rw [if_neg f, if_neg (by omega)]
      · rw [wL_2, if_neg (by omega)]; exact g2
      · rw [wL_2, if_neg (by omega)]; exact g4 m i h
      · have hv := g1 q (hrS q c)
        rw [if_neg (by omega)] at hv
        unfold f_X0_takeFromRing_L47
        rw [i12, le_n hq (by omega), holds_at hr hq, ob_s, bz_n c, bnd_n hq (by omega), bnd_n hq (by omega), nI_clamp (by omega), hv, lN_sub (hmin q c), nm_v, nm_v, i1, nI_add]
        exact hz
  · intro k a ⟨g1, g2, g3, g4⟩
    refine ⟨wL a 57 5 (lN (U + w p)), ?_, fun i hi => ?_, ?_, g3, fun m i h => ?_⟩
    · show f_X0_takeFromRing_L47 (nI r) (lN (w p)) (k + 1) a (nI 12) = _
      unfold f_X0_takeFromRing_L47
      rw [i12, le_y (Nat.le_refl 12) (by omega), g2, lN_add, nm_v]
    · rw [wL_2, if_neg (by omega), g1 i hi]
      by_cases f : i < 12
      · rw [if_pos f]
      · rw [if_neg f, dW_1]
        show _ = lN (if r.testBit i = true then _ else _)
        have : r.testBit i = false := by
          cases e : r.testBit i with
          | false => rfl
          | true => exact absurd (tb_lt (n := 12) e hr) f
        rw [if_neg (by rw [this]; decide)]
    · rw [wL_2, if_pos ⟨rfl, rfl⟩]
    · rw [wL_2, if_neg (by omega)]; exact g4 m i h
theorem lltI {α : Type} {a b : Nat} {x y : α} (ha : a < 2 ^ 63) (hb : b < 2 ^ 63) : (if lN a < lN b then x else y) = if a < b then x else y := by
  by_cases c : a < b
  · rw [if_pos c, if_pos ((pk_lLT ha hb).mpr c)]
  · rw [if_neg c, if_neg (fun z => c ((pk_lLT ha hb).mp z))]
theorem ringC_at {r S p U : Nat} {w : Nat → Nat} {σ : GM} (hr : r < 4096) (hrS : subS r S) (hwl : ∀ i, S.testBit i = true → w i < 2 ^ 62) (hp : mn r w (fun _ => 1) 12 = some p) (hmin : ∀ i, r.testBit i = true → w p ≤ w i) (hW : clW σ S w) (hU : σ.2 57 5 = lN U) :
    ∃ σ', f_X0_takeFromRing σ (nI r) = some σ' ∧ clW σ' S (dW r (fun _ => 1) p w) ∧ σ'.2 57 5 = lN (U + w p) ∧ σ'.1 = σ.1 ∧ (∀ m i, ¬ (m = 58 ∨ (m = 57 ∧ i = 5)) → σ'.2 m i = σ.2 m i) := by
  have key := ringC_44 hr hrS hmin hW hU
  unfold f_X0_takeFromRing
  refine lq5 12 (by omega) (fun k (a : Int64) i => f_X0_takeFromRing_L7 (nI r) k σ a i) (fun q a => (mn r w (fun _ => 1) q = none ∧ a = lN (2 ^ 63 - 1)) ∨ ∃ p, mn r w (fun _ => 1) q = some p ∧ r.testBit p = true ∧ a = lN (w p)) (fun z => ∃ σ', z = some σ' ∧ clW σ' S (dW r (fun _ => 1) p w) ∧ σ'.2 57 5 = lN (U + w p) ∧ σ'.1 = σ.1 ∧ (∀ m i, ¬ (m = 58 ∨ (m = 57 ∧ i = 5)) → σ'.2 m i = σ.2 m i)) (9223372036854775807 : Int64) (Or.inl ⟨rfl, rfl⟩) ?_ ?_
  · intro k q a hq hI
    cases c : r.testBit q with
    | false =>
      refine Or.inl ⟨a, by rw [mn_f c]; exact hI, fun z hz => ?_⟩
      unfold f_X0_takeFromRing_L7
      rw [i12, le_n hq (by omega), holds_at hr hq, ob_s, bz_y c, nm_v, i1, nI_add]
      exact hz
    | true =>
      have hv := hW q (hrS q c)
      have hl := hwl q (hrS q c)
      have hgo : ∀ a' z, (if lN (w q) < a then lN (w q) else a) = a' → f_X0_takeFromRing_L7 (nI r) k σ a' (nI (q + 1)) = z → f_X0_takeFromRing_L7 (nI r) (k + 1) σ a (nI q) = z := by
        intro a' z e hz
        unfold f_X0_takeFromRing_L7
        rw [i12, le_n hq (by omega), holds_at hr hq, ob_s, bz_n c, bnd_n hq (by omega), nI_clamp (by omega), hv, e, nm_v, nm_v, i1, nI_add]
        exact hz
      rcases hI with ⟨m0, rfl⟩ | ⟨p', m1, m2, rfl⟩
      · refine Or.inl ⟨lN (w q), Or.inr ⟨q, mn_0 c m0, c, rfl⟩, fun z hz => hgo _ z ?_ hz⟩
        rw [lltI (by omega) (by omega), if_pos (by omega)]
      · have hl' := hwl p' (hrS p' m2)
        by_cases l : w q < w p'
        · refine Or.inl ⟨lN (w q), Or.inr ⟨q, mn_y c m1 (by rw [Nat.mul_one, Nat.mul_one]; exact l), c, rfl⟩, fun z hz => hgo _ z ?_ hz⟩
          rw [lltI (by omega) (by omega), if_pos l]
        · refine Or.inl ⟨lN (w p'), Or.inr ⟨p', mn_k c m1 (by rw [Nat.mul_one, Nat.mul_one]; exact l), m2, rfl⟩, fun z hz => hgo _ z ?_ hz⟩
          rw [lltI (by omega) (by omega), if_neg l]
  · intro k a hI
    rcases hI with ⟨m0, -⟩ | ⟨p', m1, m2, rfl⟩
    · rw [hp] at m0; cases m0
    · rw [hp] at m1
      cases m1
      show ∃ σ', f_X0_takeFromRing_L7 (nI r) (k + 1) σ (lN (w p)) (nI 12) = some σ' ∧ _
      unfold f_X0_takeFromRing_L7
      rw [i12, le_y (Nat.le_refl 12) (by omega)]
      exact key
