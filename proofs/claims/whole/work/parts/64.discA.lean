/-! THE DISCOUNT, the step of all, as the class takes it -/
theorem lcge {α : Type} {a b : Nat} {x y : α} (ha : a < 2 ^ 63) (hb : b < 2 ^ 63) : (if (0 : Int32) ≤ lg_cmp (lN a) (lN b) then x else y) = if b ≤ a then x else y := by
  by_cases c : b ≤ a
  · rw [if_pos c, if_pos ((lg_cmp_ge _ _).mpr ((pk_lLE hb ha).mpr c))]
  · rw [if_neg c, if_neg (fun z => c ((pk_lLE hb ha).mp ((lg_cmp_ge _ _).mp z)))]
theorem allC_174 {σ : GM} {B : Nat → Nat → Nat} (hB : ptB σ 8 B) (hb : ∀ i j, B i j ≤ 20) (hy : symB B) {S v U : Nat} (hS : S < 4096) (h57 : σ.1 57 3 = nI S) (hm : pc S 12 ≤ eS B S / 2) (hU : σ.2 57 5 = lN U) :
    f_X0_takeFromAll_L180 σ (lN v) = some (wL σ 57 5 (lN (U + v * (eS B S / 2 + CC B S - pc S 12)))) := by
  have h1 := eS_le hb S
  have h2 := pc_le S 12
  have h3 := CC_le B S
  unfold f_X0_takeFromAll_L180
  rw [h57, linesIn_at hB hb hS, ob_s, partsIn_at hB hb hy hS, ob_s, bitCount_at hS, ob_s, nI_add, nI_sub (by omega), nI_l (by omega), hU, lN_mul, lN_add, nm_v]
theorem allC_111 {σ : GM} {B : Nat → Nat → Nat} (hB : ptB σ 8 B) (hb : ∀ i j, B i j ≤ 20) (hy : symB B) {S p U D : Nat} {w o : Nat → Nat} (hS : S < 4096) (h57 : σ.1 57 3 = nI S) (hm : pc S 12 ≤ eS B S / 2)
    (ho : ∀ i, S.testBit i = true → o i + 1 = dS B S i) (hop : o p ≤ 300) (hmin : ∀ i, S.testBit i = true → w p * o i ≤ w i * o p) (hW : clW σ S w) (hU : σ.2 57 5 = lN U) (hD : σ.2 57 6 = lN D) :
    ∃ σ', f_X0_takeFromAll_L87 σ (lN (w p)) (nI (o p)) = some σ' ∧ clW σ' S (dW S o p w) ∧ σ'.2 57 5 = lN (U * o p + w p * (eS B S / 2 + CC B S - pc S 12)) ∧ σ'.2 57 6 = lN (D * o p) ∧ σ'.1 = σ.1 ∧ (∀ m, m ≠ 57 → m ≠ 58 → σ'.2 m = σ.2 m) := by
  unfold f_X0_takeFromAll_L87
  rw [nI_l (by omega), hD, lN_mul, nm_v]
  have e5 : (wL σ 57 6 (lN (D * o p))).2 57 5 = lN U := by rw [wL_2, if_neg (by omega)]; exact hU
  rw [e5, lN_mul, nm_v]
  refine lq5 12 (by omega) (fun k (a : GM) i => f_X0_takeFromAll_L114 (lN (w p)) (nI (o p)) k a i) (fun q a => (∀ i, S.testBit i = true → a.2 58 i = lN (if i < q then dW S o p w i else w i)) ∧ a.2 57 5 = lN (U * o p) ∧ a.2 57 6 = lN (D * o p) ∧ a.1 = σ.1 ∧ (∀ m, m ≠ 57 → m ≠ 58 → a.2 m = σ.2 m)) (fun z => ∃ σ', z = some σ' ∧ clW σ' S (dW S o p w) ∧ σ'.2 57 5 = lN (U * o p + w p * (eS B S / 2 + CC B S - pc S 12)) ∧ σ'.2 57 6 = lN (D * o p) ∧ σ'.1 = σ.1 ∧ (∀ m, m ≠ 57 → m ≠ 58 → σ'.2 m = σ.2 m)) _ ⟨fun i hi => by rw [if_neg (by omega), wL_2, if_neg (by omega), wL_2, if_neg (by omega)]; exact hW i hi, by rw [wL_2, if_pos ⟨rfl, rfl⟩], by rw [wL_2, if_neg (by omega), wL_2, if_pos ⟨rfl, rfl⟩], rfl, fun m h1 h2 => by funext i; rw [wL_2, if_neg (by omega), wL_2, if_neg (by omega)]⟩ ?_ ?_
  · intro k q a hq ⟨g1, g2, g3, g4, g5⟩
    have hBa : ptB a 8 B := fun i hi j hj => by rw [g4]; exact hB i hi j hj
    have h57a : a.1 57 3 = nI S := by rw [g4]; exact h57
    cases c : S.testBit q with
    | false =>
      refine Or.inl ⟨wL a 58 q (a.2 58 q * lN (o p)), ⟨fun i hi => ?_, by rw [wL_2, if_neg (by omega)]; exact g2, by rw [wL_2, if_neg (by omega)]; exact g3, g4, fun m h1 h2 => by funext i; rw [wL_2, if_neg (by omega)]; exact congrFun (g5 m h1 h2) i⟩, fun z hz => ?_⟩
      · have e : i ≠ q := by rintro rfl; rw [hi] at c; cases c
        rw [wL_2, if_neg (fun x => e x.2), g1 i hi]
        by_cases f : i < q
        · rw [if_pos f, if_pos (by omega)]
        · rw [if_neg f, if_neg (by omega)]
      · unfold f_X0_takeFromAll_L114
        rw [i12, le_n hq (by omega), bnd_n hq (by omega), bnd_n hq (by omega), nI_clamp (by omega), nI_l (by omega), nm_v]
        have h3 : (wL a 58 q (a.2 58 q * lN (o p))).1 57 3 = nI S := h57a
        rw [h3, holds_at hS hq, ob_s, bz_y c, nm_v, i1, nI_add]
        exact hz
    | true =>
      have hv := g1 q c
      rw [if_neg (by omega)] at hv
      have hd := dS_le hb S q
      have hoq := ho q c
      refine Or.inl ⟨wL (wL a 58 q (lN (w q * o p))) 58 q (lN (w q * o p - w p * o q)), ⟨fun i hi => ?_, by rw [wL_2, if_neg (by omega), wL_2, if_neg (by omega)]; exact g2, by rw [wL_2, if_neg (by omega), wL_2, if_neg (by omega)]; exact g3, g4, fun m h1 h2 => by funext i; rw [wL_2, if_neg (by omega), wL_2, if_neg (by omega)]; exact congrFun (g5 m h1 h2) i⟩, fun z hz => ?_⟩
      · rw [wL_2]
        by_cases e : i = q
        · subst e
          rw [if_pos ⟨rfl, rfl⟩, if_pos (by omega)]
          unfold dW
          rw [if_pos c]
        · rw [if_neg (fun x => e x.2), wL_2, if_neg (fun x => e x.2), g1 i hi]
          by_cases f : i < q
          · rw [if_pos f, if_pos (by omega)]
          · rw [if_neg f, if_neg (by omega)]
      · unfold f_X0_takeFromAll_L114
        rw [i12, le_n hq (by omega), bnd_n hq (by omega), bnd_n hq (by omega), nI_clamp (by omega), nI_l (by omega), hv, lN_mul, nm_v]
        have h3 : (wL a 58 q (lN (w q * o p))).1 57 3 = nI S := h57a
        have h4 : (wL a 58 q (lN (w q * o p))).2 58 q = lN (w q * o p) := by rw [wL_2, if_pos ⟨rfl, rfl⟩]
        rw [h3, holds_at hS hq, ob_s, bz_n c, bnd_n hq (by omega), endsIn_at (σ := wL a 58 q (lN (w q * o p))) (B := B) hBa hb hq hS, ob_s, bnd_n hq (by omega), h4, ← hoq, i1, nI_sub (by omega), Nat.add_sub_cancel, nI_l (by omega), lN_mul, lN_sub (hmin q c), nm_v, nm_v, nI_add]
        exact hz
  · intro k a ⟨g1, g2, g3, g4, g5⟩
    have hBa : ptB a 8 B := fun i hi j hj => by rw [g4]; exact hB i hi j hj
    have h57a : a.1 57 3 = nI S := by rw [g4]; exact h57
    refine ⟨wL a 57 5 (lN (U * o p + w p * (eS B S / 2 + CC B S - pc S 12))), by
      show f_X0_takeFromAll_L114 (lN (w p)) (nI (o p)) (k + 1) a (nI 12) = _
      unfold f_X0_takeFromAll_L114
      rw [i12, le_y (Nat.le_refl 12) (by omega), allC_174 hBa hb hy hS h57a hm g2], fun i hi => ?_, by rw [wL_2, if_pos ⟨rfl, rfl⟩], by rw [wL_2, if_neg (by omega)]; exact g3, g4, fun m h1 h2 => by funext i; rw [wL_2, if_neg (by omega)]; exact congrFun (g5 m h1 h2) i⟩
    rw [wL_2, if_neg (by omega), g1 i hi, if_pos (tb_lt (n := 12) hi hS)]
theorem allC_at {σ : GM} {B : Nat → Nat → Nat} (hB : ptB σ 8 B) (hb : ∀ i j, B i j ≤ 20) (hy : symB B) {S p U D : Nat} {w o : Nat → Nat} (hS : S < 4096) (h57 : σ.1 57 3 = nI S) (hm : pc S 12 ≤ eS B S / 2)
    (ho : ∀ i, S.testBit i = true → o i + 1 = dS B S i) (ho1 : ∀ i, S.testBit i = true → 1 ≤ o i ∧ o i ≤ 5) (hwl : ∀ i, S.testBit i = true → w i < 2 ^ 50) (hp : mn S w o 12 = some p) (hpS : S.testBit p = true) (hmin : ∀ i, S.testBit i = true → w p * o i ≤ w i * o p) (hW : clW σ S w) (hU : σ.2 57 5 = lN U) (hD : σ.2 57 6 = lN D) :
    ∃ σ', f_X0_takeFromAll σ = some σ' ∧ clW σ' S (dW S o p w) ∧ σ'.2 57 5 = lN (U * o p + w p * (eS B S / 2 + CC B S - pc S 12)) ∧ σ'.2 57 6 = lN (D * o p) ∧ σ'.1 = σ.1 ∧ (∀ m, m ≠ 57 → m ≠ 58 → σ'.2 m = σ.2 m) := by
  have key := allC_111 hB hb hy hS h57 hm ho (by have := (ho1 p hpS).2; omega) hmin hW hU hD
  unfold f_X0_takeFromAll
  refine lq5 12 (by omega) (fun k (a : Int64 × Int32) i => f_X0_takeFromAll_L8 k σ a.1 a.2 i) (fun q a => (mn S w o q = none ∧ a.2 = 0) ∨ ∃ p, mn S w o q = some p ∧ S.testBit p = true ∧ a = (lN (w p), nI (o p))) (fun z => ∃ σ', z = some σ' ∧ clW σ' S (dW S o p w) ∧ σ'.2 57 5 = lN (U * o p + w p * (eS B S / 2 + CC B S - pc S 12)) ∧ σ'.2 57 6 = lN (D * o p) ∧ σ'.1 = σ.1 ∧ (∀ m, m ≠ 57 → m ≠ 58 → σ'.2 m = σ.2 m)) ((0 : Int64), (0 : Int32)) (Or.inl ⟨rfl, rfl⟩) ?_ ?_
  · intro k q a hq hI
    cases c : S.testBit q with
    | false =>
      refine Or.inl ⟨a, by rw [mn_f c]; exact hI, fun z hz => ?_⟩
      show f_X0_takeFromAll_L8 (k + 1) σ a.1 a.2 (nI q) = z
      unfold f_X0_takeFromAll_L8
      rw [i12, le_n hq (by omega), h57, holds_at hS hq, ob_s, bz_y c, nm_v, i1, nI_add]
      exact hz
    | true =>
      have hv := hW q c
      have hl := hwl q c
      have hoq := ho q c
      have ho5 := ho1 q c
      have hsub : nI (dS B S q) - 1 = nI (o q) := by rw [← hoq, i1, nI_sub (by omega), Nat.add_sub_cancel]
      rcases hI with ⟨m0, ha⟩ | ⟨p', m1, m2, rfl⟩
      · refine Or.inl ⟨(lN (w q), nI (o q)), Or.inr ⟨q, mn_0 c m0, c, rfl⟩, fun z hz => ?_⟩
        show f_X0_takeFromAll_L8 (k + 1) σ a.1 a.2 (nI q) = z
        unfold f_X0_takeFromAll_L8 f_X0_takeFromAll_L69
        rw [i12, le_n hq (by omega), h57, holds_at hS hq, ob_s, bz_n c, endsIn_at hB hb hq hS, ob_s, hsub, nm_v, if_pos ha, bnd_n hq (by omega), nI_clamp (by omega), hv, nm_v, nm_v, i1, nI_add]
        exact hz
      · have hl' := hwl p' m2
        have ho5' := ho1 p' m2
        have b1 : w q * o p' ≤ 2 ^ 50 * 5 := Nat.mul_le_mul (by omega) ho5'.2
        have b2 : w p' * o q ≤ 2 ^ 50 * 5 := Nat.mul_le_mul (by omega) ho5.2
        have hne : ¬ nI (o p') = 0 := nI_ne0 (by omega) (by omega)
        by_cases l : w q * o p' < w p' * o q
        · refine Or.inl ⟨(lN (w q), nI (o q)), Or.inr ⟨q, mn_y c m1 l, c, rfl⟩, fun z hz => ?_⟩
          show f_X0_takeFromAll_L8 (k + 1) σ (lN (w p')) (nI (o p')) (nI q) = z
          unfold f_X0_takeFromAll_L8 f_X0_takeFromAll_L69
          rw [i12, le_n hq (by omega), h57, holds_at hS hq, ob_s, bz_n c, endsIn_at hB hb hq hS, ob_s, hsub, nm_v, if_neg hne, bnd_n hq (by omega), nI_clamp (by omega), hv, nI_l (by omega), nI_l (by omega), lN_mul, lN_mul, lcge (by omega) (by omega), if_neg (by omega), bnd_n hq (by omega), nm_v, nm_v, i1, nI_add]
          exact hz
        · refine Or.inl ⟨(lN (w p'), nI (o p')), Or.inr ⟨p', mn_k c m1 l, m2, rfl⟩, fun z hz => ?_⟩
          show f_X0_takeFromAll_L8 (k + 1) σ (lN (w p')) (nI (o p')) (nI q) = z
          unfold f_X0_takeFromAll_L8
          rw [i12, le_n hq (by omega), h57, holds_at hS hq, ob_s, bz_n c, endsIn_at hB hb hq hS, ob_s, hsub, nm_v, if_neg hne, bnd_n hq (by omega), nI_clamp (by omega), hv, nI_l (by omega), nI_l (by omega), lN_mul, lN_mul, lcge (by omega) (by omega), if_pos (by omega), nm_v, i1, nI_add]
          exact hz
  · intro k a hI
    rcases hI with ⟨m0, -⟩ | ⟨p', m1, m2, rfl⟩
    · rw [hp] at m0; cases m0
    · rw [hp] at m1
      cases m1
      show ∃ σ', f_X0_takeFromAll_L8 (k + 1) σ (lN (w p)) (nI (o p)) (nI 12) = some σ' ∧ _
      unfold f_X0_takeFromAll_L8
      rw [i12, le_y (Nat.le_refl 12) (by omega)]
      exact key
