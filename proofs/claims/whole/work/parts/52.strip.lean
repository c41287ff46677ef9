/-! STRIPPING, as the class does it -/
def only57 (σ σ' : GM) : Prop := (∀ m i, ¬ (m = 57 ∧ i = 3) → σ'.1 m i = σ.1 m i) ∧ σ'.2 = σ.2
theorem only57.rf (σ : GM) : only57 σ σ := ⟨fun _ _ _ => rfl, rfl⟩
theorem only57.tr {a b c : GM} (h : only57 a b) (g : only57 b c) : only57 a c := ⟨fun m i hm => (g.1 m i hm).trans (h.1 m i hm), g.2.trans h.2⟩
theorem only57.w {σ : GM} {v : Int32} : only57 σ (wI σ 57 3 v) := ⟨fun m i h => by rw [wI_1, if_neg h], rfl⟩
theorem only57.pt {σ σ' : GM} {B : Nat → Nat → Nat} (h : ptB σ 8 B) (g : only57 σ σ') : ptB σ' 8 B := fun i hi j hj => by rw [g.1 10 _ (by omega)]; exact h i hi j hj
theorem strip_in {σ : GM} {B : Nat → Nat → Nat} (hB : ptB σ 8 B) (hb : ∀ i j, B i j ≤ 20) {V : Nat} (hV : V < 4096) (h57 : σ.1 57 3 = nI V) (k2 : GM → Int32 → Option GM) (v2 v3 : Int32) :
    ∃ σ', f_X0_strip_L16 k2 v2 v3 5000 σ (0 : Int32) = f_X0_strip_L70 k2 σ' v2 v3 ∧ σ'.1 57 3 = nI (swps B V 12) ∧ only57 σ σ' := by
  refine lq5 12 (by omega) (fun k (a : GM) i => f_X0_strip_L16 k2 v2 v3 k a i) (fun q a => a.1 57 3 = nI (swps B V q) ∧ only57 σ a) (fun z => ∃ σ', z = f_X0_strip_L70 k2 σ' v2 v3 ∧ σ'.1 57 3 = nI (swps B V 12) ∧ only57 σ σ') σ ⟨h57, only57.rf σ⟩ ?_ ?_
  · intro k q a hq ⟨g1, g2⟩
    have hl := swps_lt (B := B) hV q
    have hBa := g2.pt hB
    have hsw : swps B V (q + 1) = swp B (swps B V q) q := rfl
    cases c : (swps B V q).testBit q with
    | false =>
      have e1 : swps B V (q + 1) = swps B V q := by rw [hsw]; unfold swp; rw [c]; rfl
      refine Or.inl ⟨a, ⟨by rw [e1]; exact g1, g2⟩, fun r hr => ?_⟩
      unfold f_X0_strip_L16
      rw [i12, le_n hq (by omega), g1, holds_at hl hq, ob_s, bz_y c, nm_v, i1, nI_add]
      exact hr
    | true =>
      have hd := dS_le hb (swps B V q) q
      by_cases e : dS B (swps B V q) q ≤ 1
      · have e1 : swps B V (q + 1) = dif (swps B V q) (2 ^ q) := by rw [hsw]; unfold swp; rw [c, decide_eq_true e]; rfl
        refine Or.inl ⟨wI a 57 3 (nI (dif (swps B V q) (2 ^ q))), ⟨by rw [e1, wI_1, if_pos ⟨rfl, rfl⟩], g2.tr only57.w⟩, fun r hr => ?_⟩
        unfold f_X0_strip_L16
        rw [i12, le_n hq (by omega), g1, holds_at hl hq, ob_s, bz_n c, endsIn_at hBa hb hq hl, ob_s, nI_bit hq, nI_dif, i1, lt_n e (by omega), nm_v, nm_v, nI_add]
        exact hr
      · have e1 : swps B V (q + 1) = swps B V q := by rw [hsw]; unfold swp; rw [c, decide_eq_false e]; rfl
        refine Or.inl ⟨a, ⟨by rw [e1]; exact g1, g2⟩, fun r hr => ?_⟩
        unfold f_X0_strip_L16
        rw [i12, le_n hq (by omega), g1, holds_at hl hq, ob_s, bz_n c, endsIn_at hBa hb hq hl, ob_s, nI_bit hq, nI_dif, i1, lt_y (by omega) (by omega), nm_v, nI_add]
        exact hr
  · intro k a ⟨g1, g2⟩
    refine ⟨a, ?_, g1, g2⟩
    show f_X0_strip_L16 k2 v2 v3 (k + 1) a (nI 12) = _
    unfold f_X0_strip_L16
    rw [i12, le_y (Nat.le_refl 12) (by omega)]
theorem pc_pos {V : Nat} (hV : V < 4096) (h : V ≠ 0) : 1 ≤ pc V 12 := by
  have := (pc_all V hV h).1
  omega
theorem strip_at {σ : GM} {B : Nat → Nat → Nat} (hB : ptB σ 8 B) (hb : ∀ i j, B i j ≤ 20) {S : Nat} (hS : S < 4096) (h57 : σ.1 57 3 = nI S) : ∃ σ' T, f_X0_strip σ = some σ' ∧ σ'.1 57 3 = nI T ∧ core B S T ∧ only57 σ σ' := by
  have key : ∀ (k q V : Nat) (a : GM), V < 4096 → mid B S V → pc V 12 + q ≤ 12 → 12 < q + k → ptB a 8 B → a.1 57 3 = nI V → ∃ σ' T, f_X0_strip_L2 k a (nI q) = some σ' ∧ σ'.1 57 3 = nI T ∧ core B S T ∧ only57 a σ' := by
    intro k
    induction k with
    | zero => intro q V a _ _ h1 h2; omega
    | succ k ih =>
      intro q V a h1 h2 h3 h4 h5 h6
      unfold f_X0_strip_L2
      by_cases e : 12 ≤ q
      · rw [i12, le_y e (by omega)]
        have hV0 : V = 0 := Classical.byContradiction (fun hn => by have := pc_pos h1 hn; omega)
        exact ⟨a, V, rfl, h6, mid_core h2 (by rw [hV0]; exact fun x hx => by rw [Nat.zero_testBit] at hx; cases hx), only57.rf a⟩
      · obtain ⟨a1, r1, r2, r3⟩ := strip_in h5 hb h1 h6 (fun σ' v2' => f_X0_strip_L2 k σ' v2') (nI q) (a.1 57 3)
        rw [i12, le_n (by omega) (by omega), nm_v, r1]
        unfold f_X0_strip_L70
        have hl := swps_lt (B := B) h1 12
        rw [r2, h6]
        by_cases f : swps B V 12 = V
        · rw [eq_y f]
          rw [f] at r2
          exact ⟨a1, V, rfl, r2, mid_core h2 (swps_fix h1 f), r3⟩
        · have hsub := swps_sub (B := B) h1 12
          have hlt : pc (swps B V 12) 12 < pc V 12 := by
            have : ∃ i, V.testBit i = true ∧ (swps B V 12).testBit i = false := by
              refine Classical.byContradiction (fun hn => f ?_)
              apply Nat.eq_of_testBit_eq
              intro i
              cases g : (swps B V 12).testBit i with
              | true => exact (hsub i g).symm
              | false =>
                cases g2 : V.testBit i with
                | false => rfl
                | true => exact absurd ⟨i, g2, g⟩ hn
            obtain ⟨i, g1, g2⟩ := this
            exact pc_lt hsub (tb_lt (n := 12) g1 h1) g1 g2
          obtain ⟨σ', T, s1, s2, s3, s4⟩ := ih (q + 1) (swps B V 12) a1 hl (swps_mid h1 h2 12) (by omega) (by omega) (r3.pt h5) r2
          refine ⟨σ', T, ?_, s2, s3, r3.tr s4⟩
          rw [eq_n f (by omega) (by omega), nm_v, i1, nI_add]
          exact s1
  exact key 5000 0 S σ hS mid_rf (by have := pc_le S 12; omega) (by omega) hB h57
