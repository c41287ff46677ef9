/-! THE TABLE OF THE RING-FREE SETS -/
noncomputable def fB (B : Nat → Nat → Nat) (S : Nat) : Bool := @decide (Free B S) (Classical.propDecidable _)
theorem fB_t {B : Nat → Nat → Nat} {S : Nat} : fB B S = true ↔ Free B S := @decide_eq_true_iff _ (Classical.propDecidable _)
theorem fB_f {B : Nat → Nat → Nat} {S : Nat} : fB B S = false ↔ ¬ Free B S := by
  rw [← fB_t]
  cases fB B S <;> simp
theorem fB_0 (B : Nat → Nat → Nat) : fB B 0 = true := fB_t.mpr (fun T hT h0 => absurd (Nat.le_zero.mp (subS_le hT)) h0)
/-- more than a line, or a loop -/
def dbB (B : Nat → Nat → Nat) (p : Nat) : Nat := bsB B p 2 ||| (if B p p = 0 then 0 else 2 ^ p)
theorem bsB_t {B : Nat → Nat → Nat} {p m i : Nat} : (bsB B p m).testBit i = true ↔ (i < 12 ∧ i ≠ p ∧ m ≤ B p i) := by
  unfold bsB
  rw [tb_st, Bool.and_eq_true, decide_eq_true_iff, decide_eq_true_iff]
theorem bsB_lt {B : Nat → Nat → Nat} {p m : Nat} : bsB B p m < 4096 := st_lt _ 12
theorem dbB_lt {B : Nat → Nat → Nat} {p : Nat} (hp : p < 12) : dbB B p < 4096 := by
  unfold dbB
  apply or_lt (n := 12) bsB_lt
  split
  · decide
  · exact p2_lt hp
theorem and_0 {a b : Nat} : a &&& b = 0 ↔ ∀ i, a.testBit i = true → b.testBit i = true → False := by
  constructor
  · intro h i ha hb
    have := (tb_and (a := a) (b := b) (i := i)).mpr ⟨ha, hb⟩
    rw [h, Nat.zero_testBit] at this; cases this
  · intro h
    apply Nat.eq_of_testBit_eq
    intro i
    rw [Nat.zero_testBit]
    cases e : (a &&& b).testBit i with
    | false => rfl
    | true => exact (h i (tb_and.mp e).1 (tb_and.mp e).2).elim
theorem one_or_none {v : Nat} (hv : v < 4096) : v &&& (v - 1) = 0 ↔ ∀ i j, v.testBit i = true → v.testBit j = true → i = j := by
  by_cases h0 : v = 0
  · subst h0
    constructor
    · intro _ i j hi
      rw [Nat.zero_testBit] at hi; cases hi
    · intro _; rfl
  · obtain ⟨m1, m2, m3⟩ := lo_all v hv h0
    rw [(pc_all v hv h0).2.2]
    constructor
    · intro h i j hi hj
      have : ∀ x, v.testBit x = true → lo v = x := fun x hx => tb_two.mp ((sub_dif (b32 hv)).mp h x hx)
      rw [← this i hi, ← this j hj]
    · intro h
      exact (sub_dif (b32 hv)).mpr (fun i hi => tb_two.mpr (h _ _ m2 hi))
theorem tip_iff {B : Nat → Nat → Nat} {S p : Nat} (hS : S < 4096) (hp : S.testBit p = true) :
    dS B S p ≤ 1 ↔ (dbB B p &&& S = 0 ∧ (bsB B p 1 &&& S) &&& ((bsB B p 1 &&& S) - 1) = 0) := by
  have hp12 := tb_lt (n := 12) hp hS
  rw [one_or_none (Nat.lt_of_le_of_lt Nat.and_le_right hS), and_0]
  constructor
  · intro hd
    have h0 := dS_zero hS hp hd
    constructor
    · intro i hi hs
      rcases tb_or.mp hi with hi | hi
      · obtain ⟨a, b, c⟩ := bsB_t.mp hi
        have := (dS_nb (B := B) (p := p) hS hs).1
        omega
      · rw [if_pos h0, Nat.zero_testBit] at hi; cases hi
    · intro i j hi hj
      obtain ⟨a, b⟩ := tb_and.mp hi
      obtain ⟨c, d⟩ := tb_and.mp hj
      have e1 := (bsB_t.mp a).2.2
      have e2 := (bsB_t.mp c).2.2
      refine Classical.byContradiction (fun hne => ?_)
      have := dS_nb2 (B := B) (p := p) hS b d hne
      omega
  · rintro ⟨h1, h2⟩
    have h0 : B p p = 0 := by
      refine Classical.byContradiction (fun hn => h1 p (tb_or.mpr (Or.inr ?_)) hp)
      rw [if_neg hn]; exact tb_two.mpr rfl
    have hB1 : ∀ i, S.testBit i = true → i ≠ p → B p i ≤ 1 := by
      intro i hi hne
      refine Classical.byContradiction (fun hn => h1 i (tb_or.mpr (Or.inl (bsB_t.mpr ⟨tb_lt (n := 12) hi hS, hne, by omega⟩))) hi)
    have hs : dS B S p = sm (fun j => bI (S.testBit j) * B p j) 12 := by unfold dS; omega
    rw [hs]
    by_cases e : ∃ u, S.testBit u = true ∧ B p u ≠ 0
    · obtain ⟨u, hu, hb⟩ := e
      have hup : u ≠ p := by rintro rfl; exact hb h0
      have hu12 := tb_lt (n := 12) hu hS
      have hu1 : (bsB B p 1 &&& S).testBit u = true := tb_and.mpr ⟨bsB_t.mpr ⟨hu12, hup, by omega⟩, hu⟩
      rw [sm_one (k := u) 12 hu12 (fun i hi hne => by
        cases f : S.testBit i with
        | false => simp [bI]
        | true =>
          by_cases g : B p i = 0
          · rw [g]; rfl
          · have hip : i ≠ p := by rintro rfl; exact g h0
            exact absurd (h2 i u (tb_and.mpr ⟨bsB_t.mpr ⟨hi, hip, by omega⟩, f⟩) hu1) hne)]
      rw [hu, bI_t, Nat.one_mul]
      exact hB1 u hu hup
    · rw [sm_zero _ (fun i _ => by
        cases f : S.testBit i with
        | false => simp [bI]
        | true =>
          by_cases g : B p i = 0
          · rw [g]; rfl
          · exact absurd ⟨i, f, g⟩ e)]
      omega
theorem isFree_at {σ : GM} {B : Nat → Nat → Nat} {s : Nat} (hs : s < 4096) (h : σ.1 50 s = nI (bI (fB B s))) : f_X8_isFree σ (nI s) = some (nI (bI (fB B s))) := by
  unfold f_X8_isFree
  rw [i0, lt_n (by omega) (by omega), show (4096 : Int32) = nI 4096 from rfl, le_n hs (by omega), bnd_n hs (by omega), nI_clamp (by omega), h]
  cases fB B s <;> rfl
/-- the tables beside and doubled -/
def tabs (σ : GM) (B : Nat → Nat → Nat) : Prop := ∀ p, p < 12 → σ.1 51 p = nI (bsB B p 1) ∧ σ.1 52 p = nI (dbB B p)
theorem nI_prd {v : Nat} (hv : v < 4096) : nI v &&& (nI v - 1) = nI (v &&& (v - 1)) := by
  by_cases h0 : v = 0
  · subst h0; rfl
  · rw [nI_low hv h0, (pc_all v hv h0).2.2]
theorem byTip_at {σ : GM} {B : Nat → Nat → Nat} (ht : tabs σ B) {s : Nat} (hs : s < 4096) (h0 : s ≠ 0) (hlo : ∀ p, s.testBit p = true → σ.1 50 (dif s (2 ^ p)) = nI (bI (fB B (dif s (2 ^ p))))) : f_X8_isFreeByTip σ (nI s) = some (nI (bI (fB B s))) := by
  unfold f_X8_isFreeByTip
  refine lq5 12 (by omega) (fun k (_ : Unit) i => f_X8_isFreeByTip_L2 σ (nI s) k i) (fun q _ => ∀ i, i < q → s.testBit i = true → ¬ dS B s i ≤ 1) (fun z => z = some (nI (bI (fB B s)))) () (fun i hi => absurd hi (by omega)) ?_ ?_
  · intro k q _ hq hp
    have hbl : (bsB B q 1 &&& s) < 4096 := Nat.lt_of_le_of_lt Nat.and_le_right hs
    have go : ∀ (hn : s.testBit q = true → ¬ dS B s q ≤ 1), ∀ i, i < q + 1 → s.testBit i = true → ¬ dS B s i ≤ 1 := by
      intro hn i hi hsi
      by_cases e : i = q
      · subst e; exact hn hsi
      · exact hp i (by omega) hsi
    by_cases hsq : s.testBit q = true
    · have hti := tip_iff (B := B) hs hsq
      by_cases hd : dS B s q ≤ 1
      · right
        obtain ⟨d1, d2⟩ := hti.mp hd
        show f_X8_isFreeByTip_L2 σ (nI s) (k + 1) (nI q) = _
        unfold f_X8_isFreeByTip_L2
        rw [i12, le_n hq (by omega), le_n hq (by omega), bnd_n hq (by omega), nm_v, nI_clamp (by omega), (ht q hq).1, (ht q hq).2, nI_land, nI_land, holds_at hs hq, ob_s, bz_n hsq, bnd_n hq (by omega), d1, if_pos (show nI 0 = 0 from rfl), nI_prd hbl, d2, if_pos (show nI 0 = 0 from rfl)]
        unfold f_X8_isFreeByTip_L56
        rw [nI_bit hq, nI_dif, isFree_at (dif_lt (n := 12) hs) (hlo q hsq), ob_s, nI_bIm]
        have : fB B (dif s (2 ^ q)) = fB B s := by
          apply Bool.eq_iff_iff.mpr
          rw [fB_t, fB_t]; exact (Free_tip hs hd).symm
        rw [this]
      · refine Or.inl ⟨(), go (fun _ => hd), fun r hr => ?_⟩
        unfold f_X8_isFreeByTip_L2
        rw [i12, le_n hq (by omega), le_n hq (by omega), bnd_n hq (by omega), nm_v, nI_clamp (by omega), (ht q hq).1, (ht q hq).2, nI_land, nI_land, holds_at hs hq, ob_s, bz_n hsq, bnd_n hq (by omega)]
        by_cases d1 : dbB B q &&& s = 0
        · have d2 : ¬ ((bsB B q 1 &&& s) &&& ((bsB B q 1 &&& s) - 1) = 0) := fun h => hd (hti.mpr ⟨d1, h⟩)
          rw [d1, if_pos (show nI 0 = 0 from rfl), nI_prd hbl, i0, eq_n d2 (by have := Nat.and_le_left (n := bsB B q 1 &&& s) (m := (bsB B q 1 &&& s) - 1); omega) (by omega), nm_v, i1, nI_add]
          exact hr
        · rw [i0, eq_n d1 (by have := Nat.and_le_right (n := dbB B q) (m := s); omega) (by omega), nm_v, i1, nI_add]
          exact hr
    · refine Or.inl ⟨(), go (fun h => absurd h hsq), fun r hr => ?_⟩
      unfold f_X8_isFreeByTip_L2
      rw [i12, le_n hq (by omega), le_n hq (by omega), bnd_n hq (by omega), nm_v, holds_at hs hq, ob_s, bz_y (by simpa using hsq), nm_v, i1, nI_add]
      exact hr
  · intro k _ hp
    show f_X8_isFreeByTip_L2 σ (nI s) (k + 1) (nI 12) = _
    have : fB B s = false := by
      rw [fB_f]
      intro hf
      obtain ⟨p, h1, h2⟩ := hf s (fun i h => h) h0
      exact hp p (tb_lt (n := 12) h1 hs) h1 h2
    unfold f_X8_isFreeByTip_L2
    rw [i12, le_y (Nat.le_refl 12) (by omega), this]; rfl
