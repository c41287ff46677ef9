/-! THE DISCOUNT, a step of the reference's -/
theorem frc_b {n d w D : Nat} (h : frc n d w D) (hD : 0 < D) : d ≤ D ∧ n ≤ w := by
  obtain ⟨h1, h2, h3⟩ := h
  have hc : Nat.Coprime n d := h3
  have hd : d ∣ D := Nat.Coprime.dvd_of_dvd_mul_right hc.symm ⟨w, by rw [Nat.mul_comm D n, h2, Nat.mul_comm]⟩
  have hl := Nat.le_of_dvd hD hd
  refine ⟨hl, Nat.le_of_mul_le_mul_right ?_ hD⟩
  rw [h2]
  exact Nat.mul_le_mul_left _ hl
theorem frc_cmp {n d w n' d' w' D o o' : Nat} (h : frc n d w D) (h' : frc n' d' w' D) (hD : 0 < D) : n * (d' * o') < n' * d * o ↔ w * o' < w' * o := by
  obtain ⟨a1, a2, -⟩ := h
  obtain ⟨b1, b2, -⟩ := h'
  have e1 : n * (d' * o') * D = (w * o') * (d * d') := by
    calc n * (d' * o') * D = (n * D) * (d' * o') := by ac_rfl
      _ = (w * d) * (d' * o') := by rw [a2]
      _ = (w * o') * (d * d') := by ac_rfl
  have e2 : n' * d * o * D = (w' * o) * (d * d') := by
    calc n' * d * o * D = (n' * D) * (d * o) := by ac_rfl
      _ = (w' * d') * (d * o) := by rw [b2]
      _ = (w' * o) * (d * d') := by ac_rfl
  have hp : 0 < d * d' := Nat.mul_pos a1 b1
  constructor
  · intro l
    have := Nat.mul_lt_mul_of_pos_right l hD
    rw [e1, e2] at this
    exact Nat.lt_of_mul_lt_mul_right this
  · intro l
    have := Nat.mul_lt_mul_of_pos_right l hp
    rw [← e1, ← e2] at this
    exact Nat.lt_of_mul_lt_mul_right this
theorem frc_mul {n d w D : Nat} (h : frc n d w D) (o : Nat) : frc n d (w * o) (D * o) := by
  obtain ⟨h1, h2, h3⟩ := h
  refine ⟨h1, ?_, h3⟩
  calc n * (D * o) = (n * D) * o := by ac_rfl
    _ = (w * d) * o := by rw [h2]
    _ = w * o * d := by ac_rfl
theorem frc_tk {n d w x y v D o m : Nat} (hn : frc n d w D) (hx : frc x y v (D * o)) : n * y * (D * o) = (w * o) * (d * y) ∧ x * m * d * (D * o) = (v * m) * (d * y) := by
  obtain ⟨a1, a2, -⟩ := hn
  obtain ⟨b1, b2, -⟩ := hx
  constructor
  · calc n * y * (D * o) = (n * D) * (y * o) := by ac_rfl
      _ = (w * d) * (y * o) := by rw [a2]
      _ = (w * o) * (d * y) := by ac_rfl
  · calc x * m * d * (D * o) = (x * (D * o)) * (m * d) := by ac_rfl
      _ = (v * y) * (m * d) := by rw [b2]
      _ = (v * m) * (d * y) := by ac_rfl
def rfW (σ : GM) (S : Nat) (w : Nat → Nat) (D : Nat) : Prop := ∀ i, S.testBit i = true → ∃ n d, σ.2 72 i = lN n ∧ σ.2 73 i = lN d ∧ frc n d (w i) D
def rfU (σ : GM) (U D : Nat) : Prop := ∃ n d, σ.2 60 26 = lN n ∧ σ.2 60 27 = lN d ∧ frc n d U D
theorem lcgl {α : Type} {a b : Nat} {x y : α} (ha : a < 2 ^ 63) (hb : b < 2 ^ 63) : (if lg_cmp (lN a) (lN b) < (0 : Int32) then x else y) = if a < b then x else y := by
  by_cases c : a < b
  · rw [if_pos c, if_pos ((lg_cmp_lt _ _).mpr ((pk_lLT ha hb).mpr c))]
  · rw [if_neg c, if_neg (fun z => c ((pk_lLT ha hb).mp ((lg_cmp_lt _ _).mp z)))]
/-- longs other than those of the fractions stay -/
def keepF (σ σ' : GM) : Prop := σ'.1 = σ.1 ∧ ∀ c j, ¬ (c = 72 ∨ c = 73 ∨ c = 60) → σ'.2 c j = σ.2 c j
theorem sinks_210 {σ : GM} {B : Nat → Nat → Nat} (hB : rbB σ 62 B) (hb : ∀ i j, B i j ≤ 20) (hy : symB B) {S r x y v U D o : Nat} (hS : S < 4096) (hr : r < 4096) (hm : pc S 12 ≤ eS B S / 2) (hm20 : cM B S r ≤ 20) (hD : 0 < D) (hD20 : D ≤ 2 ^ 20) (ho : 1 ≤ o ∧ o ≤ 5) (hU : U ≤ 2160 * D) (hv : v ≤ 9 * D) (hx : frc x y v (D * o)) (hc : rfU σ U D) :
    ∃ σ', f_X12_sinks_L210 σ (nI S) (nI r) (lN x) (lN y) = some σ' ∧ rfU σ' (U * o + v * cM B S r) (D * o) ∧ σ'.1 = σ.1 ∧ ∀ c j, c ≠ 60 → σ'.2 c j = σ.2 c j := by
  obtain ⟨n, d, c1, c2, c3⟩ := hc
  obtain ⟨b1, b2⟩ := frc_b c3 hD
  obtain ⟨b3, b4⟩ := frc_b hx (Nat.mul_pos hD ho.1)
  have hDo : D * o ≤ 2 ^ 20 * 5 := Nat.mul_le_mul hD20 ho.2
  have l1 : n * y ≤ 2160 * 2 ^ 20 * (2 ^ 20 * 5) := Nat.mul_le_mul (by omega) (by omega)
  have l2 : x * cM B S r ≤ 9 * 2 ^ 20 * 20 := Nat.mul_le_mul (by omega) hm20
  have l3 : x * cM B S r * d ≤ 9 * 2 ^ 20 * 20 * 2 ^ 20 := Nat.mul_le_mul l2 (by omega)
  have l4 : d * y ≤ 2 ^ 20 * (2 ^ 20 * 5) := Nat.mul_le_mul (by omega) (by omega)
  obtain ⟨σ', r1, r2, r3, r4, r5⟩ := bounds_at (x := x) (y := y) (m := cM B S r) c1 c2 c3.1 hx.1 (by omega) (by omega) (by omega)
  obtain ⟨t1, t2⟩ := frc_tk (m := cM B S r) c3 hx
  refine ⟨σ', ?_, ⟨_, _, r2, r3, frc_red (Nat.mul_pos c3.1 hx.1) (by rw [Nat.add_mul, t1, t2, Nat.add_mul])⟩, r4, fun c j h => r5 c j (fun z => h z.1)⟩
  have h1 := eS_le hb S
  have h2 := pc_le S 12
  have h3 := CC_le B S
  unfold f_X12_sinks_L210
  by_cases c : r = 0
  · have e : nI (eS B S / 2) - nI (pc S 12) + nI (CC B S) = nI (cM B S r) := by
      rw [nI_sub hm, nI_add]
      congr 1
      unfold cM
      rw [if_pos c]
      omega
    rw [c, if_pos (show nI 0 = 0 from rfl), lineMany_at hB hb hS, ob_s, bits_at hS, ob_s, parts_at hB hb hy hS, ob_s, e, r1, ob_s]
  · have e : cM B S r = 1 := if_neg c
    rw [if_neg (nI_ne0 (by omega) (by omega)), i1, ← e, r1, ob_s]
theorem dW_y {C p : Nat} {o w : Nat → Nat} {i : Nat} (h : C.testBit i = true) : dW C o p w i = w i * o p - w p * o i := if_pos h
theorem dW_n {C p : Nat} {o w : Nat → Nat} {i : Nat} (h : C.testBit i = false) : dW C o p w i = w i * o p := if_neg (by rw [h]; decide)
theorem sinks_158 {σ : GM} {B : Nat → Nat → Nat} (hB : rbB σ 62 B) (hb : ∀ i j, B i j ≤ 20) (hy : symB B) {S r x y p U D : Nat} {w : Nat → Nat} (hS : S < 4096) (hr : r < 4096) (hCS : subS (cS S r) S) (hm : pc S 12 ≤ eS B S / 2) (hm20 : cM B S r ≤ 20) (hD : 0 < D) (hD20 : D ≤ 2 ^ 20) (ho : ∀ i, S.testBit i = true → 1 ≤ cO B S r i ∧ cO B S r i ≤ 5) (hpS : S.testBit p = true) (hU : U ≤ 2160 * D) (hwl : ∀ i, S.testBit i = true → w i ≤ 9 * D)
    (hmin : ∀ i, (cS S r).testBit i = true → w p * cO B S r i ≤ w i * cO B S r p) (hx : frc x y (w p) (D * cO B S r p)) (hW : rfW σ S w D) (hc : rfU σ U D) (hbz : bzy B S) :
    ∃ σ', f_X12_sinks_L158 (nI S) (nI r) (nI (cS S r)) (lN x) (lN y) 5000 σ (0 : Int32) = some σ' ∧ rfW σ' S (dW (cS S r) (cO B S r) p w) (D * cO B S r p) ∧ rfU σ' (U * cO B S r p + w p * cM B S r) (D * cO B S r p) ∧ keepF σ σ' := by
  have hop := ho p hpS
  have hC4 := subS_lt hCS hS
  obtain ⟨b3, b4⟩ := frc_b hx (Nat.mul_pos hD hop.1)
  have hDo : D * cO B S r p ≤ 2 ^ 20 * 5 := Nat.mul_le_mul hD20 hop.2
  refine lq5 12 (by omega) (fun k (a : GM) i => f_X12_sinks_L158 (nI S) (nI r) (nI (cS S r)) (lN x) (lN y) k a i) (fun q a => (∀ i, S.testBit i = true → ∃ n d, a.2 72 i = lN n ∧ a.2 73 i = lN d ∧ (if i < q then frc n d (dW (cS S r) (cO B S r) p w i) (D * cO B S r p) else frc n d (w i) D)) ∧ rfU a U D ∧ keepF σ a) (fun z => ∃ σ', z = some σ' ∧ rfW σ' S (dW (cS S r) (cO B S r) p w) (D * cO B S r p) ∧ rfU σ' (U * cO B S r p + w p * cM B S r) (D * cO B S r p) ∧ keepF σ σ') σ ⟨fun i hi => by
    obtain ⟨n, d, h1, h2, h3⟩ := hW i hi
    exact ⟨n, d, h1, h2, by rw [if_neg (by omega)]; exact h3⟩, hc, rfl, fun _ _ _ => rfl⟩ ?_ ?_
  · intro k q a hq ⟨g1, g2, g3⟩
    have hBa : rbB a 62 B := fun i hi j hj => by rw [g3.1]; exact hB i hi j hj
    cases c : (cS S r).testBit q with
    | false =>
      refine Or.inl ⟨a, ⟨fun i hi => ?_, g2, g3⟩, fun z hz => ?_⟩
      · obtain ⟨n, d, h1, h2, h3⟩ := g1 i hi
        refine ⟨n, d, h1, h2, ?_⟩
        by_cases e : i = q
        · subst e
          rw [if_neg (by omega)] at h3
          rw [if_pos (by omega), dW_n c]
          exact frc_mul h3 _
        · by_cases f : i < q
          · rw [if_pos f] at h3; rw [if_pos (by omega)]; exact h3
          · rw [if_neg f] at h3; rw [if_neg (by omega)]; exact h3
      · unfold f_X12_sinks_L158
        rw [i12, le_n hq (by omega), has_at hC4 hq, ob_s, bz_y c, nm_v, i1, nI_add]
        exact hz
    | true =>
      have hqS := hCS q c
      obtain ⟨n, d, h1, h2, h3⟩ := g1 q hqS
      rw [if_neg (by omega)] at h3
      obtain ⟨f1, f2⟩ := frc_b h3 hD
      have hwq := hwl q hqS
      have hoq := ho q hqS
      have l1 : n * y ≤ 9 * 2 ^ 20 * (2 ^ 20 * 5) := Nat.mul_le_mul (by omega) (by omega)
      have l4 : d * y ≤ 2 ^ 20 * (2 ^ 20 * 5) := Nat.mul_le_mul (by omega) (by omega)
      obtain ⟨t1, t2⟩ := frc_tk (m := cO B S r q) h3 hx
      have hle : x * cO B S r q * d ≤ n * y := by
        refine Nat.le_of_mul_le_mul_right (c := D * cO B S r p) ?_ (Nat.mul_pos hD hop.1)
        rw [t1, t2]
        exact Nat.mul_le_mul_right _ (hmin q c)
      obtain ⟨σ1, r1, r2, r3, r4, r5⟩ := takes_at (x := x) (y := y) (m := cO B S r q) hq h1 h2 h3.1 hx.1 (by omega) hle (by omega) (by omega)
      refine Or.inl ⟨σ1, ⟨fun i hi => ?_, ?_, r4.trans g3.1, fun c j h => (r5 c j (by omega)).trans (g3.2 c j h)⟩, fun z hz => ?_⟩
      · by_cases e : i = q
        · subst e
          refine ⟨_, _, r2, r3, ?_⟩
          rw [if_pos (by omega), dW_y c]
          exact frc_red (Nat.mul_pos h3.1 hx.1) (by rw [Nat.sub_mul, t1, t2, Nat.sub_mul])
        · obtain ⟨n', d', k1, k2, k3⟩ := g1 i hi
          refine ⟨n', d', by rw [r5 72 i (by omega)]; exact k1, by rw [r5 73 i (by omega)]; exact k2, ?_⟩
          by_cases f : i < q
          · rw [if_pos f] at k3; rw [if_pos (by omega)]; exact k3
          · rw [if_neg f] at k3; rw [if_neg (by omega)]; exact k3
      · obtain ⟨n', d', k1, k2, k3⟩ := g2
        exact ⟨n', d', by rw [r5 60 26 (by omega)]; exact k1, by rw [r5 60 27 (by omega)]; exact k2, k3⟩
      · unfold f_X12_sinks_L158
        rw [i12, le_n hq (by omega), has_at hC4 hq, ob_s, bz_n c]
        by_cases c0 : r = 0
        · have e : nI (dS B S q) - 1 = nI (cO B S r q) := by
            have := hbz q hqS
            rw [i1, nI_sub (by omega)]
            unfold cO
            rw [if_pos c0]
          rw [c0, if_pos (show nI 0 = 0 from rfl), ← c0, ends_at hBa hS hq hqS, ob_s, e, r1, ob_s, nm_v, i1, nI_add]
          exact hz
        · have e : cO B S r q = 1 := if_neg c0
          rw [e] at r1
          rw [if_neg (nI_ne0 (by omega) (by omega)), i1, r1, ob_s, nm_v, nI_add]
          exact hz
  · intro k a ⟨g1, g2, g3⟩
    have hBa : rbB a 62 B := fun i hi j hj => by rw [g3.1]; exact hB i hi j hj
    obtain ⟨σ', r1, r2, r3, r4⟩ := sinks_210 hBa hb hy hS hr hm hm20 hD hD20 hop hU (hwl p hpS) hx g2
    refine ⟨σ', ?_, fun i hi => ?_, r2, r3.trans g3.1, fun c j h => (r4 c j (by omega)).trans (g3.2 c j h)⟩
    · show f_X12_sinks_L158 (nI S) (nI r) (nI (cS S r)) (lN x) (lN y) (k + 1) a (nI 12) = _
      unfold f_X12_sinks_L158
      rw [i12, le_y (Nat.le_refl 12) (by omega)]
      exact r1
    · obtain ⟨n, d, k1, k2, k3⟩ := g1 i hi
      rw [if_pos (tb_lt (n := 12) hi hS)] at k3
      exact ⟨n, d, by rw [r4 72 i (by omega)]; exact k1, by rw [r4 73 i (by omega)]; exact k2, k3⟩
theorem sinks_15 {σ : GM} {B : Nat → Nat → Nat} (hB : rbB σ 62 B) (hb : ∀ i j, B i j ≤ 20) (hy : symB B) {S r p U D : Nat} {w : Nat → Nat} (hS : S < 4096) (hr : r < 4096) (hCS : subS (cS S r) S) (hm : pc S 12 ≤ eS B S / 2) (hm20 : cM B S r ≤ 20) (hD : 0 < D) (hD20 : D ≤ 2 ^ 20) (ho : ∀ i, S.testBit i = true → 1 ≤ cO B S r i ∧ cO B S r i ≤ 5) (hU : U ≤ 2160 * D) (hwl : ∀ i, S.testBit i = true → w i ≤ 9 * D)
    (hp : mn (cS S r) w (cO B S r) 12 = some p) (hpC : (cS S r).testBit p = true) (hmin : ∀ i, (cS S r).testBit i = true → w p * cO B S r i ≤ w i * cO B S r p) (hW : rfW σ S w D) (hc : rfU σ U D) (hbz : bzy B S) :
    ∃ σ', f_X12_sinks_L15 σ (nI S) (nI r) (nI (cS S r)) = some σ' ∧ rfW σ' S (dW (cS S r) (cO B S r) p w) (D * cO B S r p) ∧ rfU σ' (U * cO B S r p + w p * cM B S r) (D * cO B S r p) ∧ keepF σ σ' := by
  have hC4 := subS_lt hCS hS
  unfold f_X12_sinks_L15
  refine lq5 12 (by omega) (fun k (a : Int64 × Int64) i => f_X12_sinks_L25 (nI S) (nI r) (nI (cS S r)) k σ a.1 a.2 i) (fun q a => (mn (cS S r) w (cO B S r) q = none ∧ a.2 = 0) ∨ ∃ p, mn (cS S r) w (cO B S r) q = some p ∧ (cS S r).testBit p = true ∧ a = (σ.2 72 p, σ.2 73 p * lN (cO B S r p))) (fun z => ∃ σ', z = some σ' ∧ rfW σ' S (dW (cS S r) (cO B S r) p w) (D * cO B S r p) ∧ rfU σ' (U * cO B S r p + w p * cM B S r) (D * cO B S r p) ∧ keepF σ σ') ((0 : Int64), (0 : Int64)) (Or.inl ⟨rfl, rfl⟩) ?_ ?_
  · intro k q a hq hI
    cases c : (cS S r).testBit q with
    | false =>
      refine Or.inl ⟨a, by rw [mn_f c]; exact hI, fun z hz => ?_⟩
      show f_X12_sinks_L25 (nI S) (nI r) (nI (cS S r)) (k + 1) σ a.1 a.2 (nI q) = z
      unfold f_X12_sinks_L25
      rw [i12, le_n hq (by omega), has_at hC4 hq, ob_s, bz_y c, nm_v, i1, nI_add]
      exact hz
    | true =>
      have hqS := hCS q c
      obtain ⟨n, d, h1, h2, h3⟩ := hW q hqS
      obtain ⟨f1, f2⟩ := frc_b h3 hD
      have hwq := hwl q hqS
      have hoq := ho q hqS
      -- to the comparison
      have go : ∀ z, f_X12_sinks_L64 (fun σ' v4' v6' v8' => f_X12_sinks_L25 (nI S) (nI r) (nI (cS S r)) k σ' v4' v6' v8') (nI S) (nI r) (nI (cS S r)) σ a.1 a.2 (nI q) (nI (cO B S r q)) = z → f_X12_sinks_L25 (nI S) (nI r) (nI (cS S r)) (k + 1) σ a.1 a.2 (nI q) = z := by
        intro z hz
        unfold f_X12_sinks_L25
        rw [i12, le_n hq (by omega), has_at hC4 hq, ob_s, bz_n c]
        by_cases c0 : r = 0
        · have e : nI (dS B S q) - 1 = nI (cO B S r q) := by
            have := hbz q hqS
            rw [i1, nI_sub (by omega)]
            unfold cO
            rw [if_pos c0]
          rw [if_pos (show nI r = 0 by rw [c0]; rfl), ends_at hB hS hq hqS, ob_s, e]
          exact hz
        · have e : cO B S r q = 1 := if_neg c0
          rw [if_neg (nI_ne0 (by omega) (by omega)), i1, ← e]
          exact hz
      have take : ∀ z, f_X12_sinks_L25 (nI S) (nI r) (nI (cS S r)) k σ (σ.2 72 q) (σ.2 73 q * lN (cO B S r q)) (nI (q + 1)) = z → f_X12_sinks_L104 (fun σ' v4' v6' v8' => f_X12_sinks_L25 (nI S) (nI r) (nI (cS S r)) k σ' v4' v6' v8') (nI S) (nI r) (nI (cS S r)) σ (nI q) (nI (cO B S r q)) = z := by
        intro z hz
        unfold f_X12_sinks_L104
        rw [bnd_n hq (by omega), nm_v, bnd_n hq (by omega), nI_clamp (by omega), nI_l (by omega), nm_v, nm_v, i1, nI_add]
        exact hz
      rcases hI with ⟨m0, ha⟩ | ⟨p', m1, m2, rfl⟩
      · refine Or.inl ⟨(σ.2 72 q, σ.2 73 q * lN (cO B S r q)), Or.inr ⟨q, mn_0 c m0, c, rfl⟩, fun z hz => go z ?_⟩
        unfold f_X12_sinks_L64
        rw [ha, l0, if_pos ((lg_cmp_eq _ _).mpr rfl)]
        exact take z hz
      · have hpS' := hCS p' m2
        obtain ⟨n', d', k1, k2, k3⟩ := hW p' hpS'
        obtain ⟨f1', f2'⟩ := frc_b k3 hD
        have hwp' := hwl p' hpS'
        have hop' := ho p' hpS'
        have hdo : d' * cO B S r p' ≤ 2 ^ 20 * 5 := Nat.mul_le_mul (by omega) hop'.2
        have hdp : 0 < d' * cO B S r p' := Nat.mul_pos k3.1 hop'.1
        have l1 : n * (d' * cO B S r p') ≤ 9 * 2 ^ 20 * (2 ^ 20 * 5) := Nat.mul_le_mul (by omega) hdo
        have l2 : n' * d ≤ 9 * 2 ^ 20 * 2 ^ 20 := Nat.mul_le_mul (by omega) (by omega)
        have l3 : n' * d * cO B S r q ≤ 9 * 2 ^ 20 * 2 ^ 20 * 5 := Nat.mul_le_mul l2 hoq.2
        have hcmp := frc_cmp (o := cO B S r q) (o' := cO B S r p') h3 k3 hD
        by_cases l : w q * cO B S r p' < w p' * cO B S r q
        · refine Or.inl ⟨(σ.2 72 q, σ.2 73 q * lN (cO B S r q)), Or.inr ⟨q, mn_y c m1 l, c, rfl⟩, fun z hz => go z ?_⟩
          show f_X12_sinks_L64 _ _ _ _ σ (σ.2 72 p') (σ.2 73 p' * lN (cO B S r p')) _ _ = z
          unfold f_X12_sinks_L64
          rw [k1, k2, lN_mul, lcz_n (by omega) (by omega), bnd_n hq (by omega), bnd_n hq (by omega), nI_clamp (by omega), h1, h2, nI_l (by omega), lN_mul, lN_mul, lN_mul, lcgl (by omega) (by omega), if_pos (hcmp.mpr l)]
          exact take z hz
        · refine Or.inl ⟨(σ.2 72 p', σ.2 73 p' * lN (cO B S r p')), Or.inr ⟨p', mn_k c m1 l, m2, rfl⟩, fun z hz => go z ?_⟩
          have hz : f_X12_sinks_L25 (nI S) (nI r) (nI (cS S r)) k σ (σ.2 72 p') (σ.2 73 p' * lN (cO B S r p')) (nI (q + 1)) = z := hz
          rw [k1, k2, lN_mul] at hz
          show f_X12_sinks_L64 _ _ _ _ σ (σ.2 72 p') (σ.2 73 p' * lN (cO B S r p')) _ _ = z
          unfold f_X12_sinks_L64
          rw [k1, k2, lN_mul, lcz_n (by omega) (by omega), bnd_n hq (by omega), bnd_n hq (by omega), nI_clamp (by omega), h1, h2, nI_l (by omega), lN_mul, lN_mul, lN_mul, lcgl (by omega) (by omega), if_neg (fun x => l (hcmp.mp x)), nm_v, i1, nI_add]
          exact hz
  · intro k a hI
    rcases hI with ⟨m0, -⟩ | ⟨p', m1, m2, rfl⟩
    · rw [hp] at m0; cases m0
    · rw [hp] at m1
      cases m1
      have hpS := hCS p hpC
      obtain ⟨n, d, k1, k2, k3⟩ := hW p hpS
      obtain ⟨f1, f2⟩ := frc_b k3 hD
      have hwp := hwl p hpS
      have hop := ho p hpS
      have hdo : d * cO B S r p ≤ 2 ^ 20 * 5 := Nat.mul_le_mul (by omega) hop.2
      have hdp : 0 < d * cO B S r p := Nat.mul_pos k3.1 hop.1
      have hg := Nat.gcd_pos_of_pos_right n hdp
      have hgl := Nat.gcd_le_right n hdp
      have hx : frc (n / Nat.gcd n (d * cO B S r p)) (d * cO B S r p / Nat.gcd n (d * cO B S r p)) (w p) (D * cO B S r p) := by
        refine frc_red hdp ?_
        calc n * (D * cO B S r p) = (n * D) * cO B S r p := by ac_rfl
          _ = (w p * d) * cO B S r p := by rw [k3.2.1]
          _ = w p * (d * cO B S r p) := by ac_rfl
      show ∃ σ', f_X12_sinks_L25 (nI S) (nI r) (nI (cS S r)) (k + 1) σ (σ.2 72 p) (σ.2 73 p * lN (cO B S r p)) (nI 12) = some σ' ∧ _
      unfold f_X12_sinks_L25 f_X12_sinks_L132
      rw [i12, le_y (Nat.le_refl 12) (by omega), k1, k2, lN_mul, div200 (by omega) (by omega), ob_s, nzl_n hg (by omega), pk_lDiv (by omega) hg (by omega), nm_v, nzl_n hg (by omega), pk_lDiv (by omega) hg (by omega), nm_v]
      exact sinks_158 hB hb hy hS hr hCS hm hm20 hD hD20 ho hpS hU hwl hmin hx hW hc hbz
