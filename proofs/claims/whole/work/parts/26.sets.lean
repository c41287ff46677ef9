/-! SETS: lowest point, how many, which are asked of -/
theorem nI_z {x : Nat} (h : x < 2 ^ 32) (e : nI x = 0) : x = 0 := by
  have := congrArg (fun z : Int32 => z.toBitVec.toNat) e
  simp only [pk_tn h] at this
  exact this
theorem v_nI (v : Int32) : v = nI v.toBitVec.toNat := by
  apply Int32.toBitVec_inj.mp
  apply BitVec.eq_of_toNat_eq
  rw [pk_tn v.toBitVec.isLt]
/-- is the word a set within h -/
def inS (h : Nat) (v : Int32) : Bool := decide (v &&& (nI h ^^^ (-1)) = 0)
theorem inS_sub {h : Nat} (hh : h < 4096) {v : Int32} (hv : inS h v = true) : ∃ s, s < 4096 ∧ v = nI s ∧ s &&& h = s := by
  have hv := of_decide_eq_true hv
  have hl := v.toBitVec.isLt
  rw [v_nI v, nI_dif] at hv
  have h0 := nI_z (dif_lt hl) hv
  have h1 := sub_and.mpr ((sub_dif hl).mp h0)
  exact ⟨_, by rw [← h1]; exact Nat.lt_of_le_of_lt Nat.and_le_right hh, v_nI v, h1⟩
theorem inS_n {h s : Nat} (hs : s < 4096) : inS h (nI s) = decide (s &&& h = s) := by
  unfold inS
  rw [nI_dif]
  have hl : dif s h < 2 ^ 32 := dif_lt (Nat.lt_of_lt_of_le hs (by decide))
  by_cases e : s &&& h = s
  · rw [decide_eq_true e, decide_eq_true]
    rw [(sub_dif (Nat.lt_of_lt_of_le hs (by decide))).mpr (sub_and.mp e)]; rfl
  · rw [decide_eq_false e, decide_eq_false]
    intro q
    exact e (sub_and.mpr ((sub_dif (Nat.lt_of_lt_of_le hs (by decide))).mp (nI_z hl q)))
theorem inS_neg {h : Nat} (hh : h < 4096) {v : Int32} (hv : v < 0) : inS h v = false := by
  cases e : inS h v with
  | false => rfl
  | true =>
    obtain ⟨s, h1, rfl, -⟩ := inS_sub hh e
    rw [i0, clt (by omega) (by omega)] at hv
    omega
theorem areThere_any {σ : GM} {n h : Nat} (h1 : σ.1 n 3 = nI h) (v : Int32) : f_X3_areThere σ n v = some (nI (bI (inS h v))) := by
  unfold f_X3_areThere
  rw [h1]
  by_cases e : v &&& (nI h ^^^ (-1)) = 0
  · rw [if_pos e, show inS h v = true from decide_eq_true e]; rfl
  · rw [if_neg e, show inS h v = false from decide_eq_false e]; rfl
theorem pc0 : pc 0 12 = 0 := by decide
theorem bitCount_at {σ : GM} {s : Nat} (hs : s < 4096) : f_J6_bitCount_0f7a4 σ (nI s) = some (nI (pc s 12)) := congrArg some (bcf_all s hs)
theorem lowest_at {σ : GM} {v : Nat} (hv : v < 4096) (h0 : v ≠ 0) : f_X8_lowest σ (nI v) = some (nI (lo v)) := by
  unfold f_X8_lowest
  rw [i0, eq_n h0 (by omega) (by omega)]
  exact congrArg some (low_all v hv h0)
theorem lowest_0 {σ : GM} : f_X8_lowest σ (nI 0) = some (-1) := rfl
theorem nI_low {v : Nat} (hv : v < 4096) (h0 : v ≠ 0) : nI v &&& (nI v - 1) = nI (dif v (2 ^ lo v)) := by
  rw [i1, nI_sub (by omega), nI_land, (pc_all v hv h0).2.2]
/-! THE REFERENCE'S SMALL FUNCTIONS -/
theorem has_at {σ : GM} {s p : Nat} (hs : s < 4096) (hp : p < 12) : f_X12_has σ (nI s) (nI p) = some (nI (bI (s.testBit p))) := by
  unfold f_X12_has
  rw [nI_test (by omega) hp]
  cases s.testBit p <;> rfl
theorem bits_at {σ : GM} {s : Nat} (hs : s < 4096) : f_X12_bits σ (nI s) = some (nI (pc s 12)) := by
  have key : ∀ (k v c : Nat), v < 4096 → pc v 12 < k → f_X12_bits_L4 σ k (nI c) (nI v) = some (nI (c + pc v 12)) := by
    intro k
    induction k with
    | zero => intro v c h1 h2; omega
    | succ k ih =>
      intro v c h1 h2
      unfold f_X12_bits_L4
      by_cases e : v = 0
      · subst e
        rw [if_pos (show nI 0 = 0 from rfl), pc0]; rfl
      · have h3 := pc_all v h1 e
        rw [i0, eq_n e (by omega) (by omega), nm_v, nm_v, nI_low h1 e, i1, nI_add, ih _ _ (dif_lt (n := 12) h1) (by rw [← h3.2.2]; omega), ← h3.2.2, ← h3.1]
        congr 2; omega
  have h1 := key 5000 s 0 hs (by have := pc_le s 12; omega)
  rw [Nat.zero_add] at h1
  exact h1
theorem least_at {σ : GM} {v : Nat} (hv : v < 4096) (h0 : v ≠ 0) : f_X12_least σ (nI v) = some (nI (lo v)) := by
  obtain ⟨h1, h2, h3⟩ := lo_all v hv h0
  have key : ∀ (k q : Nat), q ≤ lo v → lo v < q + k → f_X12_least_L2 σ (nI v) k (nI q) = some (nI (lo v)) := by
    intro k
    induction k with
    | zero => intro q a b; omega
    | succ k ih =>
      intro q a b
      unfold f_X12_least_L2
      rw [has_at hv (by omega), ob_s]
      by_cases e : q = lo v
      · subst e
        rw [bz_n h2]
      · rw [bz_y (h3 q (by omega)), nm_v, i1, nI_add]
        exact ih (q + 1) (by omega) (by omega)
  exact key 5000 0 (by omega) (by omega)
theorem isIn_at {σ : GM} {v : Int32} {a b : Nat} (ha : a < 2 ^ 31) (hb : b < 2 ^ 31) (hv : nI a ≤ v → v ≤ nI b → False) : f_X12_isIn σ v (nI a) (nI b) = some 0 := by
  unfold f_X12_isIn
  by_cases c : v < nI a
  · rw [if_pos c]; rfl
  · rw [if_neg c]
    by_cases d : nI b < v
    · rw [if_pos d]; rfl
    · exact (hv (Int32.not_lt.mp c) (Int32.not_lt.mp d)).elim
theorem isIn_y {σ : GM} {a b j : Nat} (hb : b < 2 ^ 31) (h1 : a ≤ j) (h2 : j ≤ b) : f_X12_isIn σ (nI j) (nI a) (nI b) = some 1 := by
  unfold f_X12_isIn
  rw [lt_n h1 (by omega), lt_n h2 (by omega)]; rfl
/-- a row of the reference's, at the cell c from o on -/
def rfAt (σ : GM) (c o : Nat) (N : NT) : Prop :=
  σ.1 c o = nI N.told ∧ σ.1 c (o + 1) = nI N.here ∧ σ.1 c (o + 2) = nI N.gone ∧ (∀ i, i < N.told → σ.1 c (o + 3 + i) = nI (N.wt i)) ∧ ∀ i, i < 12 → ∀ j, j < 12 → σ.1 c (o + 15 + 12 * i + j) = nI (N.bt i j)
def rbB (σ : GM) (c : Nat) (B : Nat → Nat → Nat) : Prop := ∀ i, i < 12 → ∀ j, j < 12 → σ.1 c (15 + 12 * i + j) = nI (B i j)
theorem rfAt.rb {σ : GM} {c : Nat} {N : NT} (h : rfAt σ c 0 N) : rbB σ c N.bt := fun i hi j hj => by
  have := h.2.2.2.2 i hi j hj
  rwa [Nat.zero_add] at this
theorem between_at {σ : GM} {c : Nat} {B : Nat → Nat → Nat} (hB : rbB σ c B) {a b : Nat} (ha : a < 12) (hb : b < 12) : f_X12_between σ c (nI a) (nI b) = some (nI (B a b)) := by
  unfold f_X12_between
  rw [nm_v, i15, i12, pk_mul, nI_add, nI_add, bnd_n (by omega) (by omega), nI_clamp (by omega), hB a ha b hb]
theorem isThere_rf {σ : GM} {h : Nat} (h1 : σ.1 62 1 = nI h) (hh : h < 4096) (v : Int32) : f_X12_isThere σ v = some (nI (bI (inT h v))) := by
  unfold f_X12_isThere f_X12_there
  rcases pk_ix v (n := 12) (by omega) with e | e | ⟨j, hj, rfl⟩
  · rw [inT_lo e, i0, show (11 : Int32) = nI 11 from rfl, isIn_at (by omega) (by omega) (fun a _ => by rw [← i0] at a; exact Int32.not_le.mpr e a), ob_s]; rfl
  · rw [inT_hi e, i0, show (11 : Int32) = nI 11 from rfl, isIn_at (by omega) (by omega) (fun _ b => by
      have := Int32.le_trans e b
      rw [cle (by omega) (by omega)] at this
      omega), ob_s]; rfl
  · rw [inT_n hj, i0, show (11 : Int32) = nI 11 from rfl, isIn_y (by omega) (by omega) (by omega), ob_s, if_neg (by decide), show bnd (1 : Int32) 159 (some (σ.1 62 (1 : Int32).toNatClampNeg)) = some (nI h) from by rw [← h1]; rfl, ob_s, has_at hh hj, ob_s]
    cases h.testBit j <;> rfl
