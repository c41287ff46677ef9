/-! THE LIST OF THE LEAST RINGS -/
def frT (σ : GM) (B : Nat → Nat → Nat) (h : Nat) : Prop := ∀ S, subS S h → σ.1 50 S = nI (bI (fB B S))
def isM (B : Nat → Nat → Nat) (h r : Nat) : Prop := subS r h ∧ ¬ Free B r ∧ ∀ p, r.testBit p = true → Free B (dif r (2 ^ p))
theorem isM_sub {B : Nat → Nat → Nat} {h r r' : Nat} (hh : h < 4096) (hr : isM B h r) (hr' : isM B h r') (hs : subS r r') : r = r' := by
  apply Nat.eq_of_testBit_eq
  intro i
  cases e : r'.testBit i with
  | false =>
    cases f : r.testBit i with
    | false => rfl
    | true => have := hs i f; rw [e] at this; cases this
  | true =>
    cases f : r.testBit i with
    | true => rfl
    | false =>
      exfalso
      refine hr.2.1 (Free_sub (fun j hj => (tb_dif1 (subS_lt hr'.1 hh)).mpr ⟨hs j hj, ?_⟩) (hr'.2.2 i e))
      rintro rfl
      rw [f] at hj; cases hj
theorem isM_0 {B : Nat → Nat → Nat} {h r : Nat} (hr : isM B h r) : r ≠ 0 := by
  rintro rfl
  exact hr.2.1 (fB_t.mp (fB_0 B))
/-- below any set with a ring lies a least one -/
theorem isM_ex {B : Nat → Nat → Nat} {h : Nat} (hh : h < 4096) : ∀ n S, S < n → subS S h → ¬ Free B S → ∃ r, isM B h r ∧ subS r S := by
  intro n
  induction n with
  | zero => intro S hS; omega
  | succ n ih =>
    intro S hS hsub hf
    by_cases e : ∃ p, S.testBit p = true ∧ ¬ Free B (dif S (2 ^ p))
    · obtain ⟨p, h1, h2⟩ := e
      have hS4 := subS_lt hsub hh
      have hl := dif_lt' hS4 h1
      have hd : subS (dif S (2 ^ p)) S := dif_sub hS4
      obtain ⟨r, g1, g2⟩ := ih (dif S (2 ^ p)) (by omega) (subS_tr hd hsub) h2
      exact ⟨r, g1, subS_tr g2 hd⟩
    · refine ⟨S, ⟨hsub, hf, fun p hp => Classical.byContradiction (fun hn => e ⟨p, hp, hn⟩)⟩, fun i h => h⟩
theorem leastRing_at {σ : GM} {B : Nat → Nat → Nat} {h s : Nat} (ht : frT σ B h) (hh : h < 4096) (hs : subS s h) : ∃ b : Bool, f_X8_isLeastRing σ (nI s) = some (nI (bI b)) ∧ (b = true ↔ isM B h s) := by
  have hs4 := subS_lt hs hh
  unfold f_X8_isLeastRing
  rw [isFree_at hs4 (ht s hs), ob_s]
  cases hf : fB B s with
  | true =>
    refine ⟨false, by rw [bz_n rfl]; rfl, ⟨fun q => (by cases q), fun q => absurd (fB_t.mp hf) q.2.1⟩⟩
  | false =>
    rw [bz_y rfl]
    refine lq5 12 (by omega) (fun k (_ : Unit) i => f_X8_isLeastRing_L12 σ (nI s) k i) (fun q _ => ∀ i, i < q → s.testBit i = true → Free B (dif s (2 ^ i))) (fun z => ∃ b : Bool, z = some (nI (bI b)) ∧ (b = true ↔ isM B h s)) () (fun i hi => absurd hi (by omega)) ?_ ?_
    · intro k q _ hq hp
      cases hsq : s.testBit q with
      | false =>
        refine Or.inl ⟨(), fun i hi hsi => ?_, fun r hr => ?_⟩
        · by_cases e : i = q
          · subst e; rw [hsq] at hsi; cases hsi
          · exact hp i (by omega) hsi
        · unfold f_X8_isLeastRing_L12
          rw [i12, le_n hq (by omega), holds_at hs4 hq, ob_s, bz_y hsq, nm_v, i1, nI_add]
          exact hr
      | true =>
        have hdd := isFree_at (σ := σ) (dif_lt (n := 12) hs4) (ht (dif s (2 ^ q)) (subS_tr (dif_sub hs4) hs))
        cases hfq : fB B (dif s (2 ^ q)) with
        | false =>
          refine Or.inr ⟨false, ?_, ⟨fun c => (by cases c), fun c => absurd (c.2.2 q hsq) (fB_f.mp hfq)⟩⟩
          show f_X8_isLeastRing_L12 σ (nI s) (k + 1) (nI q) = _
          unfold f_X8_isLeastRing_L12
          rw [i12, le_n hq (by omega), holds_at hs4 hq, ob_s, bz_n hsq, nI_bit hq, nI_dif, hdd, ob_s, bz_y hfq]; rfl
        | true =>
          refine Or.inl ⟨(), fun i hi hsi => ?_, fun r hr => ?_⟩
          · by_cases e : i = q
            · subst e; exact fB_t.mp hfq
            · exact hp i (by omega) hsi
          · unfold f_X8_isLeastRing_L12
            rw [i12, le_n hq (by omega), holds_at hs4 hq, ob_s, bz_n hsq, nI_bit hq, nI_dif, hdd, ob_s, bz_n hfq, nm_v, i1, nI_add]
            exact hr
    · intro k _ hp
      refine ⟨true, ?_, ⟨fun _ => ⟨hs, fB_f.mp hf, fun p h1 => hp p (tb_lt (n := 12) h1 hs4) h1⟩, fun _ => rfl⟩⟩
      show f_X8_isLeastRing_L12 σ (nI s) (k + 1) (nI 12) = _
      unfold f_X8_isLeastRing_L12
      rw [i12, le_y (Nat.le_refl 12) (by omega)]; rfl
/-- the list under way: rings whose lowest point is under v, and those at v under w -/
def rl (σ : GM) (B : Nat → Nat → Nat) (h v w c : Nat) (f s : Nat → Nat) : Prop :=
  σ.1 49 5 = nI c ∧ (∀ i, i < c → σ.1 53 i = nI (f i) ∧ isM B h (f i)) ∧ (∀ i j, i < c → j < c → f i = f j → i = j) ∧
  (∀ r, isM B h r → (lo r < v ∨ (lo r = v ∧ r < w)) → ∃ i, i < c ∧ f i = r) ∧
  (∀ u, u ≤ v → s u ≤ c) ∧ (∀ i, i < c → ∀ u, u < v → (lo (f i) = u ↔ (s u ≤ i ∧ i < s (u + 1)))) ∧ (∀ i, i < c → s v ≤ i → lo (f i) = v ∧ f i < w) ∧ (∀ i, i < s v → lo (f i) < v)
theorem rl_room {σ : GM} {B : Nat → Nat → Nat} {h v w c : Nat} {f s : Nat → Nat} (hh : h < 4096) (H : rl σ B h v w c f s) (hw : isM B h w) (hl : lo w = v) : c < 924 := by
  obtain ⟨h1, h2, h3, h4, h5, h7, h8, h9⟩ := H
  have hne : ∀ i, i < c → f i ≠ w := by
    intro i hi e
    rcases Nat.lt_or_ge i (s v) with q | q
    · have := h9 i q; rw [e, hl] at this; omega
    · have := (h8 i hi q).2; omega
  have hsp := sperner (L := c + 1) (f := fun i => if i = c then w else f i) (fun i hi => by
    show (if i = c then w else f i) < 4096
    split
    · exact subS_lt hw.1 hh
    · exact subS_lt (h2 i (by omega)).2.1 hh) (fun i j hi hj hs => by
    have hs : subS (if i = c then w else f i) (if j = c then w else f j) := hs
    by_cases a : i = c
    · by_cases b : j = c
      · omega
      · rw [if_pos a, if_neg b] at hs
        exact absurd (isM_sub hh hw (h2 j (by omega)).2 hs).symm (hne j (by omega))
    · by_cases b : j = c
      · rw [if_neg a, if_pos b] at hs
        exact absurd (isM_sub hh (h2 i (by omega)).2 hw hs) (hne i (by omega))
      · rw [if_neg a, if_neg b] at hs
        exact h3 i j (by omega) (by omega) (isM_sub hh (h2 i (by omega)).2 (h2 j (by omega)).2 hs))
  omega
