/-! RINGS, COUNTED: both counts -/
def hfB (B : Nat → Nat → Nat) (i j : Nat) : Int64 := ((nI (B i j) * (nI (B i j) - 1)) / 2).toInt64
def TX (B : Nat → Nat → Nat) (u : Nat) : Int64 := wB B u u + SW (fun j => if u < j then hfB B u j else 0) 12
def YW (B : Nat → Nat → Nat) (u : Nat) : Int64 := WW B 14 u u (2 ^ u)
theorem pc_one {u : Nat} (h : u < 12) : pc (2 ^ u) 12 = 1 := by
  have := pc_put (v := 0) h (Nat.zero_testBit u)
  rwa [Nat.zero_or, pc0] at this
theorem le_n1 {α : Type} {a : Nat} {x y : α} (h : 1 < a) (ha : a < 2 ^ 31) : (if nI a ≤ (1 : Int32) then x else y) = y := le_n h ha
theorem nzl2 {β : Type} (k : Option β) : nzl (2 : Int64) k = k := by unfold nzl; rw [if_neg (by decide)]
theorem nz2 {β : Type} (k : Option β) : nz (2 : Int32) k = k := by unfold nz; rw [if_neg (by decide)]
theorem YW_0 {B : Nat → Nat → Nat} {u : Nat} (hu : u < 12) (h : ∀ j, B u j = 0) : YW B u = 0 := by
  unfold YW
  rw [WW, pc_one hu, if_pos (by omega), SW_lo (fun i _ => if_neg (fun c => c.2.1 (h i)))]; rfl
theorem of_at {σ : GM} {N : NT} (hn : netAt σ 8 N) (hw : wf N) : f_X7_of σ = some (SW (TX N.bt) 12 + SW (YW N.bt) 12 / 2) := by
  have hP := hn.2.2.2.2.2
  unfold f_X7_of
  refine lq5 12 (by omega) (fun k (a : Int64 × Int64) i => f_X7_of_L7 σ k a.1 a.2 i) (fun q a => a = (SW (TX N.bt) q, SW (YW N.bt) q)) (fun z => z = some (SW (TX N.bt) 12 + SW (YW N.bt) 12 / 2)) (0, 0) rfl ?_ ?_
  · intro k q a hq ha
    subst ha
    refine Or.inl ⟨_, rfl, fun r hr => ?_⟩
    unfold f_X7_of_L7
    rw [i12, le_n hq (by omega), linesOf_at hP hq hq, ob_s, nm_v, i1, nI_add, nm_v]
    have h0 : SW (fun j => if q < j then hfB N.bt q j else 0) (q + 1) = 0 := SW_lo (fun i hi => if_neg (by omega))
    refine lq 12 (fun k2 (a : Int64) i => f_X7_of_L32 σ (fun v1' v3' v5' => f_X7_of_L7 σ k v1' v3' v5') (SW (YW N.bt) q) (nI q) k2 a i) (fun j a => q < j ∧ a = SW (TX N.bt) q + (wB N.bt q q + SW (fun j => if q < j then hfB N.bt q j else 0) j)) (fun z => z = r) ?_ ?_ 5000 (q + 1) _ (by omega) (by omega) ⟨by omega, by rw [h0, Int64.add_zero]; rfl⟩
    · intro k2 j a hj ⟨h1, ha⟩
      subst ha
      refine Or.inl ⟨_, ⟨by omega, rfl⟩, fun r2 hr2 => ?_⟩
      unfold f_X7_of_L32
      rw [i12, le_n hj (by omega), linesOf_at hP hq hj, ob_s, nz2, nm_v, nm_v, Int64.add_assoc, Int64.add_assoc, i1, nI_add]
      rw [SW, if_pos h1] at hr2
      exact hr2
    · intro k2 a ⟨h1, ha⟩
      subst ha
      show f_X7_of_L32 σ (fun v1' v3' v5' => f_X7_of_L7 σ k v1' v3' v5') (SW (YW N.bt) q) (nI q) (k2 + 1) _ (nI 12) = r
      unfold f_X7_of_L32 f_X7_of_L68
      rw [i12, le_y (Nat.le_refl 12) (by omega), isThere_at hn.2.1 hw.h4096 hq, ob_s]
      cases c : N.here.testBit q with
      | false =>
        rw [bz_y rfl, nm_v, i1, nI_add]
        have hy : SW (YW N.bt) (q + 1) = SW (YW N.bt) q := by
          rw [SW, YW_0 hq (fun j => hw.b0 (Or.inl c)), Int64.add_zero]
        rw [hy] at hr
        exact hr
      | true =>
        have hwb := waysBack_at hP hw.b20 14 q q (2 ^ q) hq hq (p2_lt hq) (by rw [pc_one hq]; omega)
        rw [pc_one hq] at hwb
        rw [bz_n rfl, nI_bit hq, i1, hwb, ob_s, nm_v, nm_v, nI_add]
        exact hr
  · intro k a ha
    subst ha
    show f_X7_of_L7 σ (k + 1) _ _ (nI 12) = _
    unfold f_X7_of_L7
    rw [i12, le_y (Nat.le_refl 12) (by omega), nzl2]
def isR (B : Nat → Nat → Nat) (S : Nat) : Prop := (∃ v, v < 12 ∧ MK B 14 v v (2 ^ v) S) ∨ (∃ v, v < 12 ∧ B v v ≠ 0 ∧ S = 2 ^ v) ∨ (∃ v j, v < j ∧ j < 12 ∧ 2 ≤ B v j ∧ S = 2 ^ v ||| 2 ^ j)
def isRt (σ : GM) (B : Nat → Nat → Nat) : Prop := ∀ S, S < 4096 → (isR B S → σ.1 70 S = 1) ∧ (¬ isR B S → σ.1 70 S = 0)
theorem mks.one {a : GM} {k : Nat} : mks a (wI a 70 k 1) (fun S => S = k) := fun S => ⟨fun e => by rw [wI_1, if_pos ⟨rfl, e⟩], fun e => by rw [wI_1, if_neg (fun z => e z.2)]⟩
theorem mks.wLr {a c : GM} {v : Int64} {M : Nat → Prop} (h : mks (wL a 60 21 v) c M) : mks a c M := h
theorem lays_65 {B : Nat → Nat → Nat} (hb : ∀ i j, B i j ≤ 20) {σ : GM} (hB : rbB σ 62 B) :
    ∃ σ', f_X12_laysRings_L65 5000 σ (0 : Int32) = some σ' ∧ σ'.2 60 21 = σ.2 60 21 + SW (TX B) 12 ∧ mks σ σ' (fun S => (∃ v, v < 12 ∧ B v v ≠ 0 ∧ S = 2 ^ v) ∨ (∃ v j, v < 12 ∧ v < j ∧ j < 12 ∧ 2 ≤ B v j ∧ S = 2 ^ v ||| 2 ^ j)) ∧ keepW σ σ' := by
  refine lq5 12 (by omega) (fun k (a : GM) i => f_X12_laysRings_L65 k a i) (fun q a => a.2 60 21 = σ.2 60 21 + SW (TX B) q ∧ mks σ a (fun S => (∃ v, v < q ∧ B v v ≠ 0 ∧ S = 2 ^ v) ∨ (∃ v j, v < q ∧ v < j ∧ j < 12 ∧ 2 ≤ B v j ∧ S = 2 ^ v ||| 2 ^ j)) ∧ keepW σ a) (fun r => ∃ σ', r = some σ' ∧ σ'.2 60 21 = σ.2 60 21 + SW (TX B) 12 ∧ mks σ σ' (fun S => (∃ v, v < 12 ∧ B v v ≠ 0 ∧ S = 2 ^ v) ∨ (∃ v j, v < 12 ∧ v < j ∧ j < 12 ∧ 2 ≤ B v j ∧ S = 2 ^ v ||| 2 ^ j)) ∧ keepW σ σ') σ ⟨(Int64.add_zero _).symm, (mks.rf σ).cong (fun S => ⟨fun x => x.elim, fun x => by
    rcases x with ⟨v, x, -⟩ | ⟨v, j, x, -⟩
    · omega
    · omega⟩), keepW.rf σ⟩ ?_ ?_
  · intro k q a hq ⟨g1, g2, g3⟩
    have hbq := hb q q
    have h2q := p2_lt hq
    have hBa := hB.kw g3
    -- the inner sweep
    have inner : ∀ (k65 : GM → Int32 → Option GM) (a1 : GM), rbB a1 62 B → ∃ a2, f_X12_laysRings_L111 k65 a1 (nI q) = k65 a2 (nI (q + 1)) ∧ a2.2 60 21 = a1.2 60 21 + SW (fun j => if q < j then hfB B q j else 0) 12 ∧ mks a1 a2 (fun S => ∃ j, q < j ∧ j < 12 ∧ 2 ≤ B q j ∧ S = 2 ^ q ||| 2 ^ j) ∧ keepW a1 a2 := by
      intro k65 a1 hB1
      have h0 : SW (fun j => if q < j then hfB B q j else 0) (q + 1) = 0 := SW_lo (fun i hi => if_neg (by omega))
      unfold f_X12_laysRings_L111
      rw [nm_v, i1, nI_add]
      refine lq 12 (fun k2 (a : GM) i => f_X12_laysRings_L115 k65 (nI q) k2 a i) (fun j a => q < j ∧ a.2 60 21 = a1.2 60 21 + SW (fun j => if q < j then hfB B q j else 0) j ∧ mks a1 a (fun S => ∃ i, q < i ∧ i < j ∧ 2 ≤ B q i ∧ S = 2 ^ q ||| 2 ^ i) ∧ keepW a1 a) (fun r => ∃ a2, r = k65 a2 (nI (q + 1)) ∧ a2.2 60 21 = a1.2 60 21 + SW (fun j => if q < j then hfB B q j else 0) 12 ∧ mks a1 a2 (fun S => ∃ j, q < j ∧ j < 12 ∧ 2 ≤ B q j ∧ S = 2 ^ q ||| 2 ^ j) ∧ keepW a1 a2) ?_ ?_ 5000 (q + 1) a1 (by omega) (by omega) ⟨by omega, by rw [h0, Int64.add_zero], (mks.rf a1).cong (fun S => ⟨fun x => x.elim, fun x => by obtain ⟨i, x, y, -⟩ := x; omega⟩), keepW.rf a1⟩
      · intro k2 j a2 hj ⟨f1, f2, f3, f4⟩
        have hbj := hb q j
        have hsum : a2.2 60 21 + hfB B q j = a1.2 60 21 + SW (fun j => if q < j then hfB B q j else 0) (j + 1) := by
          rw [SW, if_pos f1, f2, Int64.add_assoc]
        have hlt : 2 ^ q ||| 2 ^ j < 4096 := or_lt (n := 12) h2q (p2_lt hj)
        by_cases c : B q j ≤ 1
        · refine Or.inl ⟨wL a2 60 21 (a2.2 60 21 + hfB B q j), ⟨by omega, by rw [wL_2, if_pos ⟨rfl, rfl⟩]; exact hsum, f3.cong (fun S => ⟨?_, ?_⟩), f4.tr keepW.wL⟩, fun r hr => ?_⟩
          · rintro ⟨i, x, y, z⟩; exact ⟨i, x, by omega, z⟩
          · rintro ⟨i, x, y, z, t⟩
            by_cases e : i = j
            · subst e; omega
            · exact ⟨i, x, by omega, z, t⟩
          · unfold f_X12_laysRings_L115
            rw [i12, le_n hj (by omega), between_at (hB1.kw f4) hq hj, ob_s, nz2, nm_v, i1, le_y c (by omega), nm_v, nI_add]
            exact hr
        · refine Or.inl ⟨wI (wL a2 60 21 (a2.2 60 21 + hfB B q j)) 70 (2 ^ q ||| 2 ^ j) 1, ⟨by omega, by rw [wI_2, wL_2, if_pos ⟨rfl, rfl⟩]; exact hsum, (f3.tr (mks.wLr mks.one)).cong (fun S => ⟨?_, ?_⟩), (f4.tr keepW.wL).tr keepW.wI⟩, fun r hr => ?_⟩
          · rintro (⟨i, x, y, z⟩ | x)
            · exact ⟨i, x, by omega, z⟩
            · exact ⟨j, f1, by omega, by omega, x⟩
          · rintro ⟨i, x, y, z, t⟩
            by_cases e : i = j
            · subst e; exact Or.inr t
            · exact Or.inl ⟨i, x, by omega, z, t⟩
          · unfold f_X12_laysRings_L115
            rw [i12, le_n hj (by omega), between_at (hB1.kw f4) hq hj, ob_s, nz2, nm_v, le_n1 (by omega) (by omega), nI_bit hq, nI_bit hj, nI_lor, bnd_n hlt (by omega), nm_v, nm_v, nI_clamp (by omega), i1, nI_add]
            exact hr
      · intro k2 a2 ⟨f1, f2, f3, f4⟩
        refine ⟨a2, ?_, f2, f3, f4⟩
        show f_X12_laysRings_L115 k65 (nI q) (k2 + 1) a2 (nI 12) = _
        unfold f_X12_laysRings_L115
        rw [i12, le_y (Nat.le_refl 12) (by omega), nm_v, i1, nI_add]
    have hT : SW (TX B) (q + 1) = SW (TX B) q + (wB B q q + SW (fun j => if q < j then hfB B q j else 0) 12) := rfl
    by_cases c : B q q = 0
    · obtain ⟨a2, r1, r2, r3, r4⟩ := inner (fun σ' v1' => f_X12_laysRings_L65 k σ' v1') (wL a 60 21 (a.2 60 21 + wB B q q)) (hBa.kw keepW.wL)
      refine Or.inl ⟨a2, ⟨?_, (g2.tr (mks.wLr r3)).cong (fun S => ⟨?_, ?_⟩), (g3.tr keepW.wL).tr r4⟩, fun r hr => ?_⟩
      · rw [r2, wL_2, if_pos ⟨rfl, rfl⟩, g1, hT, Int64.add_assoc, Int64.add_assoc]
      · rintro ((⟨v, x, y⟩ | ⟨v, j, x, y⟩) | ⟨j, x, y⟩)
        · exact Or.inl ⟨v, by omega, y⟩
        · exact Or.inr ⟨v, j, by omega, y⟩
        · exact Or.inr ⟨q, j, by omega, x, y⟩
      · rintro (⟨v, x, y, z⟩ | ⟨v, j, x, y⟩)
        · by_cases e : v = q
          · subst e; exact absurd c y
          · exact Or.inl (Or.inl ⟨v, by omega, y, z⟩)
        · by_cases e : v = q
          · subst e; exact Or.inr ⟨j, y⟩
          · exact Or.inl (Or.inr ⟨v, j, by omega, y⟩)
      · unfold f_X12_laysRings_L65
        rw [i12, le_n hq (by omega), between_at hBa hq hq, ob_s, nm_v, between_at (hBa.kw keepW.wL) hq hq, ob_s, c, show (0 : Int32) = nI 0 from rfl, le_y (Nat.le_refl 0) (by omega)]
        unfold wB at r1
        rw [c] at r1
        exact r1.trans hr
    · obtain ⟨a2, r1, r2, r3, r4⟩ := inner (fun σ' v1' => f_X12_laysRings_L65 k σ' v1') (wI (wL a 60 21 (a.2 60 21 + wB B q q)) 70 (2 ^ q) 1) ((hBa.kw keepW.wL).kw keepW.wI)
      refine Or.inl ⟨a2, ⟨?_, ((g2.tr (mks.wLr mks.one)).tr r3).cong (fun S => ⟨?_, ?_⟩), ((g3.tr keepW.wL).tr keepW.wI).tr r4⟩, fun r hr => ?_⟩
      · rw [r2, wI_2, wL_2, if_pos ⟨rfl, rfl⟩, g1, hT, Int64.add_assoc, Int64.add_assoc]
      · rintro (((⟨v, x, y⟩ | ⟨v, j, x, y⟩) | x) | ⟨j, x, y⟩)
        · exact Or.inl ⟨v, by omega, y⟩
        · exact Or.inr ⟨v, j, by omega, y⟩
        · exact Or.inl ⟨q, by omega, c, x⟩
        · exact Or.inr ⟨q, j, by omega, x, y⟩
      · rintro (⟨v, x, y, z⟩ | ⟨v, j, x, y⟩)
        · by_cases e : v = q
          · subst e; exact Or.inl (Or.inr z)
          · exact Or.inl (Or.inl (Or.inl ⟨v, by omega, y, z⟩))
        · by_cases e : v = q
          · subst e; exact Or.inr ⟨j, y⟩
          · exact Or.inl (Or.inl (Or.inr ⟨v, j, by omega, y⟩))
      · unfold f_X12_laysRings_L65
        rw [i12, le_n hq (by omega), between_at hBa hq hq, ob_s, nm_v, between_at (hBa.kw keepW.wL) hq hq, ob_s, i0, le_n (by omega) (by omega), nI_bit hq, bnd_n h2q (by omega), nm_v, nI_clamp (by omega)]
        exact r1.trans hr
  · intro k a ⟨g1, g2, g3⟩
    refine ⟨a, ?_, g1, g2, g3⟩
    show f_X12_laysRings_L65 (k + 1) a (nI 12) = _
    unfold f_X12_laysRings_L65
    rw [i12, le_y (Nat.le_refl 12) (by omega)]
theorem lays_29 {B : Nat → Nat → Nat} (hb : ∀ i j, B i j ≤ 20) {σ : GM} (hB : rbB σ 62 B) :
    ∃ σ', f_X12_laysRings_L29 5000 σ (0 : Int32) = f_X12_laysRings_L51 σ' ∧ σ'.2 60 21 = σ.2 60 21 + SW (YW B) 12 ∧ mks σ σ' (fun S => ∃ v, v < 12 ∧ MK B 14 v v (2 ^ v) S) ∧ keepW σ σ' := by
  refine lq5 12 (by omega) (fun k (a : GM) i => f_X12_laysRings_L29 k a i) (fun q a => a.2 60 21 = σ.2 60 21 + SW (YW B) q ∧ mks σ a (fun S => ∃ v, v < q ∧ MK B 14 v v (2 ^ v) S) ∧ keepW σ a) (fun r => ∃ σ', r = f_X12_laysRings_L51 σ' ∧ σ'.2 60 21 = σ.2 60 21 + SW (YW B) 12 ∧ mks σ σ' (fun S => ∃ v, v < 12 ∧ MK B 14 v v (2 ^ v) S) ∧ keepW σ σ') σ ⟨(Int64.add_zero _).symm, (mks.rf σ).cong (fun S => ⟨fun x => x.elim, fun x => by obtain ⟨v, x, -⟩ := x; omega⟩), keepW.rf σ⟩ ?_ ?_
  · intro k q a hq ⟨g1, g2, g3⟩
    have hv := tb_two (p := q) (i := q)
    obtain ⟨a2, r1, r2, r3, r4⟩ := goes_at hb 14 q q (2 ^ q) a 1 (hB.kw g3) hq hq (p2_lt hq) (hv.mpr rfl) (hv.mpr rfl) (by rw [pc_one hq]; omega)
    refine Or.inl ⟨a2, ⟨?_, (g2.tr r3).cong (fun S => ⟨?_, ?_⟩), g3.tr r4⟩, fun r hr => ?_⟩
    · rw [r2, g1, Int64.one_mul, SW, Int64.add_assoc]; rfl
    · rintro (⟨v, x, y⟩ | x)
      · exact ⟨v, by omega, y⟩
      · exact ⟨q, by omega, x⟩
    · rintro ⟨v, x, y⟩
      by_cases e : v = q
      · subst e; exact Or.inr y
      · exact Or.inl ⟨v, by omega, y⟩
    · unfold f_X12_laysRings_L29
      rw [i12, le_n hq (by omega), nI_bit hq, r1, ob_s, nm_v, i1, nI_add]
      exact hr
  · intro k a ⟨g1, g2, g3⟩
    refine ⟨a, ?_, g1, g2, g3⟩
    show f_X12_laysRings_L29 (k + 1) a (nI 12) = _
    unfold f_X12_laysRings_L29
    rw [i12, le_y (Nat.le_refl 12) (by omega)]
theorem laysRings_at {B : Nat → Nat → Nat} (hb : ∀ i j, B i j ≤ 20) {σ : GM} (hB : rbB σ 62 B) :
    ∃ σ', f_X12_laysRings σ = some σ' ∧ σ'.2 60 21 = SW (YW B) 12 / 2 + SW (TX B) 12 ∧ isRt σ' B ∧ keepW σ σ' := by
  unfold f_X12_laysRings
  rw [nm_v]
  refine lq5 4096 (by omega) (fun k (a : GM) i => f_X12_laysRings_L7 k a i) (fun q a => a.2 60 21 = 0 ∧ (∀ S, S < q → a.1 70 S = 0) ∧ keepW σ a) (fun r => ∃ σ', r = some σ' ∧ σ'.2 60 21 = SW (YW B) 12 / 2 + SW (TX B) 12 ∧ isRt σ' B ∧ keepW σ σ') (wL σ 60 21 0) ⟨by rw [wL_2, if_pos ⟨rfl, rfl⟩], fun S hS => absurd hS (by omega), keepW.wL⟩ ?_ ?_
  · intro k q a hq ⟨g1, g2, g3⟩
    refine Or.inl ⟨wI a 70 q 0, ⟨g1, fun S hS => ?_, g3.tr keepW.wI⟩, fun r hr => ?_⟩
    · rw [wI_1]
      by_cases e : S = q
      · rw [if_pos ⟨rfl, e⟩]
      · rw [if_neg (by omega)]; exact g2 S (by omega)
    · unfold f_X12_laysRings_L7
      rw [show (4096 : Int32) = nI 4096 from rfl, le_n hq (by omega), bnd_n hq (by omega), nm_v, nm_v, nI_clamp (by omega), i1, nI_add]
      exact hr
  · intro k a ⟨g1, g2, g3⟩
    obtain ⟨a2, r1, r2, r3, r4⟩ := lays_29 hb (hB.kw g3)
    have h12 := keepW.wL (σ := a2) (v := a2.2 60 21 / 2)
    obtain ⟨a3, s1, s2, s3, s4⟩ := lays_65 hb (((hB.kw g3).kw r4).kw h12)
    refine ⟨a3, ?_, ?_, ?_, ((g3.tr r4).tr h12).tr s4⟩
    · show f_X12_laysRings_L7 (k + 1) a (nI 4096) = _
      unfold f_X12_laysRings_L7
      rw [show (4096 : Int32) = nI 4096 from rfl, le_y (Nat.le_refl 4096) (by omega), r1]
      unfold f_X12_laysRings_L51
      rw [nzl2, nm_v, s1]
    · rw [s2, wL_2, if_pos ⟨rfl, rfl⟩, r2, g1, Int64.zero_add]
    · intro S hS
      have h1 := r3.tr (mks.wLr s3) S
      have e : isR B S ↔ ((∃ v, v < 12 ∧ MK B 14 v v (2 ^ v) S) ∨ (∃ v, v < 12 ∧ B v v ≠ 0 ∧ S = 2 ^ v) ∨ ∃ v j, v < 12 ∧ v < j ∧ j < 12 ∧ 2 ≤ B v j ∧ S = 2 ^ v ||| 2 ^ j) := by
        unfold isR
        constructor
        · rintro (x | x | ⟨v, j, x, y⟩)
          · exact Or.inl x
          · exact Or.inr (Or.inl x)
          · exact Or.inr (Or.inr ⟨v, j, by omega, x, y⟩)
        · rintro (x | x | ⟨v, j, x, y⟩)
          · exact Or.inl x
          · exact Or.inr (Or.inl x)
          · exact Or.inr (Or.inr ⟨v, j, y⟩)
      exact ⟨fun x => h1.1 (e.mp x), fun x => (h1.2 (fun y => x (e.mpr y))).trans (g2 S hS)⟩
