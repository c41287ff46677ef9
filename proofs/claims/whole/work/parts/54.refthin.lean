/-! THE SAME RING, as the reference finds it -/
theorem thin_sum {B : Nat → Nat → Nat} {S r : Nat} (hr : subS r S) : pc (r &&& bm B S) 12 = sm (fun i => bI (r.testBit i && decide (2 < dS B S i))) 12 := by
  unfold pc
  apply sm_congr
  intro i hi
  apply bI_eq
  rw [tb_and, bm_t, Bool.and_eq_true, decide_eq_true_iff]
  constructor
  · rintro ⟨a, -, -, d⟩
    exact ⟨a, d⟩
  · rintro ⟨a, d⟩
    exact ⟨a, hi, hr i a, d⟩
theorem thin_32 {σ : GM} {B : Nat → Nat → Nat} (hB : rbB σ 62 B) (hb : ∀ i j, B i j ≤ 20) {S r : Nat} (hS : S < 4096) (hr : subS r S) (k2 : Int32 → Option Int32) :
    f_X12_thinRing_L32 σ k2 (nI S) (nI r) 5000 (0 : Int32) (0 : Int32) = f_X12_thinRing_L71 σ k2 (nI S) (nI r) (nI (pc (r &&& bm B S) 12)) := by
  have hr4 := subS_lt hr hS
  rw [thin_sum hr]
  refine lq5 12 (by omega) (fun k (a : Int32) i => f_X12_thinRing_L32 σ k2 (nI S) (nI r) k a i) (fun q a => a = nI (sm (fun i => bI (r.testBit i && decide (2 < dS B S i))) q)) (fun z => z = f_X12_thinRing_L71 σ k2 (nI S) (nI r) (nI (sm (fun i => bI (r.testBit i && decide (2 < dS B S i))) 12))) (nI 0) rfl ?_ ?_
  · intro k q a hq ha
    subst ha
    have hd := dS_le hb S q
    refine Or.inl ⟨_, rfl, fun z hz => ?_⟩
    unfold f_X12_thinRing_L32
    rw [i12, le_n hq (by omega), has_at hr4 hq, ob_s]
    rw [sm] at hz
    cases c : r.testBit q with
    | false =>
      rw [c, Bool.false_and, bI_f, Nat.add_zero] at hz
      rw [bz_y rfl, nm_v, i1, nI_add]
      exact hz
    | true =>
      rw [bz_n rfl, ends_at hB hS hq (hr q c), ob_s, i2]
      by_cases e : dS B S q ≤ 2
      · rw [c, show decide (2 < dS B S q) = false from decide_eq_false (by omega), Bool.and_false, bI_f, Nat.add_zero] at hz
        rw [le_y e (by omega), nm_v, i1, nI_add]
        exact hz
      · rw [c, show decide (2 < dS B S q) = true from decide_eq_true (by omega), Bool.and_true, bI_t] at hz
        rw [le_n (by omega) (by omega), nm_v, nm_v, i1, nI_add, nI_add]
        exact hz
  · intro k a ha
    subst ha
    show f_X12_thinRing_L32 σ k2 (nI S) (nI r) (k + 1) _ (nI 12) = _
    unfold f_X12_thinRing_L32
    rw [i12, le_y (Nat.le_refl 12) (by omega)]
theorem thinRing_at {σ : GM} {B : Nat → Nat → Nat} (hB : rbB σ 62 B) (hb : ∀ i j, B i j ≤ 20) (hR : isRt σ B) (hP0 : ¬ isR B 0) {S : Nat} (hS : S < 4096) : ∃ r, f_X12_thinRing σ (nI S) = some (nI r) ∧ thn (isR B) B S r := by
  unfold f_X12_thinRing
  by_cases hS0 : S = 0
  · subst hS0
    refine ⟨0, ?_, Or.inl ⟨rfl, fun x hx hs _ => ?_⟩⟩
    · have : f_X12_thinRing_L2 σ (nI 0) (4999 + 1) 1 = some 0 := by
        unfold f_X12_thinRing_L2
        rw [i1, lt_y (by omega) (by omega)]
      exact this
    · have := subS_le hs
      exact hP0 (by rwa [show x = 0 by omega] at hx)
  · refine lq (S + 1) (fun k (_ : Unit) i => f_X12_thinRing_L2 σ (nI S) k i) (fun q _ => 1 ≤ q ∧ ∀ x, x < q → isR B x → subS x S → ¬ thin B S x) (fun z => ∃ r, z = some (nI r) ∧ thn (isR B) B S r) ?_ ?_ 5000 1 () (by omega) (by omega) ⟨Nat.le_refl 1, fun x hx hR2 _ => absurd hR2 (by rw [show x = 0 by omega]; exact hP0)⟩
    · intro k q _ hq ⟨q1, hI⟩
      have hq4 : q < 4096 := by omega
      have hpc := pc_le (q &&& bm B S) 12
      have hdl := dif_lt (b := S) (n := 12) hq4
      have nxt : ¬ (isR B q ∧ subS q S ∧ thin B S q) → (1 ≤ q + 1 ∧ ∀ x, x < q + 1 → isR B x → subS x S → ¬ thin B S x) := fun hn => ⟨by omega, fun x hx a b c => by
        by_cases e : x = q
        · subst e; exact hn ⟨a, b, c⟩
        · exact hI x (by omega) a b c⟩
      by_cases c : isR B q
      · have hc := (hR q hq4).1 c
        have hne : ¬ σ.1 70 q = 0 := by rw [hc]; decide
        by_cases e : subS q S
        · have h0 := (sub_dif (b32 hq4)).mpr e
          by_cases t : thin B S q
          · have ht : pc (q &&& bm B S) 12 ≤ 1 := t
            refine Or.inr ⟨q, ?_, Or.inr ⟨c, e, t, fun x a b d => ?_⟩⟩
            · show f_X12_thinRing_L2 σ (nI S) (k + 1) (nI q) = _
              unfold f_X12_thinRing_L2
              rw [lt_n (by omega) (by omega), bnd_n hq4 (by omega), nI_clamp (by omega), if_neg hne, nI_dif, h0, if_pos (show nI 0 = 0 from rfl), thin_32 hB hb hS e]
              unfold f_X12_thinRing_L71
              rw [i2, le_n (by omega) (by omega)]
            · rcases Nat.lt_or_ge x q with z | z
              · exact absurd d (hI x z a b)
              · exact z
          · have ht : 2 ≤ pc (q &&& bm B S) 12 := by
              rcases Nat.lt_or_ge (pc (q &&& bm B S) 12) 2 with z | z
              · exact absurd (show thin B S q by unfold thin; omega) t
              · exact z
            refine Or.inl ⟨(), nxt (fun z => t z.2.2), fun r hr => ?_⟩
            unfold f_X12_thinRing_L2
            rw [lt_n (by omega) (by omega), bnd_n hq4 (by omega), nI_clamp (by omega), if_neg hne, nI_dif, h0, if_pos (show nI 0 = 0 from rfl), thin_32 hB hb hS e]
            unfold f_X12_thinRing_L71
            rw [i2, le_y ht (by omega), nm_v, i1, nI_add]
            exact hr
        · have h0 : dif q S ≠ 0 := fun z => e ((sub_dif (b32 hq4)).mp z)
          refine Or.inl ⟨(), nxt (fun z => e z.2.1), fun r hr => ?_⟩
          unfold f_X12_thinRing_L2
          rw [lt_n (by omega) (by omega), bnd_n hq4 (by omega), nI_clamp (by omega), if_neg hne, nI_dif, i0, eq_n h0 (by omega) (by omega), nm_v, i1, nI_add]
          exact hr
      · refine Or.inl ⟨(), nxt (fun z => c z.1), fun r hr => ?_⟩
        unfold f_X12_thinRing_L2
        rw [lt_n (by omega) (by omega), bnd_n hq4 (by omega), nI_clamp (by omega), if_pos ((hR q hq4).2 c), nm_v, i1, nI_add]
        exact hr
    · intro k _ ⟨q1, hI⟩
      refine ⟨0, ?_, Or.inl ⟨rfl, fun x a b => hI x (by have := subS_le b; omega) a b⟩⟩
      show f_X12_thinRing_L2 σ (nI S) (k + 1) (nI (S + 1)) = _
      unfold f_X12_thinRing_L2
      rw [lt_y (by omega) (by omega)]
      rfl
