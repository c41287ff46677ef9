/-! PARTS, as the class and as the reference find them -/
theorem tb_or {a b i : Nat} : (a ||| b).testBit i = true ↔ (a.testBit i = true ∨ b.testBit i = true) := by rw [Nat.testBit_or, Bool.or_eq_true]
theorem tb_and {a b i : Nat} : (a &&& b).testBit i = true ↔ (a.testBit i = true ∧ b.testBit i = true) := by rw [Nat.testBit_and, Bool.and_eq_true]
theorem tb_two {p i : Nat} : (2 ^ p).testBit i = true ↔ p = i := by rw [tb_bit, decide_eq_true_iff]
theorem or_lt {a b n : Nat} (ha : a < 2 ^ n) (hb : b < 2 ^ n) : a ||| b < 2 ^ n := Nat.or_lt_two_pow ha hb
theorem p2_lt {p : Nat} (h : p < 12) : 2 ^ p < 2 ^ 12 := Nat.pow_lt_pow_right (by decide) h
theorem pc_put {v r : Nat} (hr : r < 12) (h : v.testBit r = false) : pc (v ||| 2 ^ r) 12 = pc v 12 + 1 := by
  have h1 := sm_upd (f := fun i => bI ((v ||| 2 ^ r).testBit i)) (g := fun i => bI (v.testBit i)) hr (fun i _ hne => bI_eq (by rw [tb_or, tb_two]; simp [Ne.symm hne]))
  have h2 : (v ||| 2 ^ r).testBit r = true := tb_or.mpr (Or.inr (tb_two.mpr rfl))
  simp only [h, h2, bI_t, bI_f] at h1
  unfold pc
  omega
theorem pc_sub {a b : Nat} (h : subS a b) : pc a 12 ≤ pc b 12 := sm_mono _ (fun i _ => by
  cases e : a.testBit i with
  | false => exact Nat.zero_le _
  | true => rw [h i e]; exact Nat.le_refl _)
theorem pc_lt {a b r : Nat} (h : subS a b) (hr : r < 12) (h1 : b.testBit r = true) (h2 : a.testBit r = false) : pc a 12 < pc b 12 := by
  have h3 : subS (a ||| 2 ^ r) b := by
    intro i hi
    rcases tb_or.mp hi with hi | hi
    · exact h i hi
    · rw [← tb_two.mp hi]; exact h1
  have := pc_sub h3
  rw [pc_put hr h2] at this
  omega
/-- the inner sweep over the neighbours of r -/
def grow (B : Nat → Nat → Nat) (s v r q : Nat) : Nat := v ||| st (fun j => s.testBit j && decide (B r j ≠ 0)) q
theorem grow_t {B : Nat → Nat → Nat} {s v r q i : Nat} : (grow B s v r q).testBit i = true ↔ (v.testBit i = true ∨ (i < q ∧ s.testBit i = true ∧ B r i ≠ 0)) := by
  unfold grow
  rw [tb_or, tb_st, Bool.and_eq_true, Bool.and_eq_true, decide_eq_true_iff, decide_eq_true_iff]
theorem grow_lt {B : Nat → Nat → Nat} {s v r q : Nat} (hv : v < 4096) (hs : s < 4096) : grow B s v r q < 4096 := by
  apply Nat.lt_of_not_le
  intro h
  have : grow B s v r q ≤ v ||| s := subS_le (fun i hi => by
    rcases grow_t.mp hi with h | h
    · exact tb_or.mpr (Or.inl h)
    · exact tb_or.mpr (Or.inr h.2.1))
  have h2 := or_lt (n := 12) hv hs
  omega
theorem grow_y {B : Nat → Nat → Nat} {s v r q : Nat} (h : B r q ≠ 0) : grow B s v r (q + 1) = grow B s v r q ||| (2 ^ q &&& s) := by
  apply Nat.eq_of_testBit_eq
  intro i
  apply Bool.eq_iff_iff.mpr
  rw [tb_or, tb_and, tb_two, grow_t, grow_t]
  constructor
  · rintro (a | ⟨a, b, c⟩)
    · exact Or.inl (Or.inl a)
    · by_cases e : i = q
      · exact Or.inr ⟨e.symm, b⟩
      · exact Or.inl (Or.inr ⟨by omega, b, c⟩)
  · rintro ((a | ⟨a, b, c⟩) | ⟨a, b⟩)
    · exact Or.inl a
    · exact Or.inr ⟨by omega, b, c⟩
    · subst a; exact Or.inr ⟨by omega, b, h⟩
theorem grow_n {B : Nat → Nat → Nat} {s v r q : Nat} (h : B r q = 0 ∨ s.testBit q = false) : grow B s v r (q + 1) = grow B s v r q := by
  apply Nat.eq_of_testBit_eq
  intro i
  apply Bool.eq_iff_iff.mpr
  rw [grow_t, grow_t]
  constructor
  · rintro (a | ⟨a, b, c⟩)
    · exact Or.inl a
    · by_cases e : i = q
      · subst e
        rcases h with h | h
        · exact absurd h c
        · rw [h] at b; cases b
      · exact Or.inr ⟨by omega, b, c⟩
  · rintro (a | ⟨a, b, c⟩)
    · exact Or.inl a
    · exact Or.inr ⟨by omega, b, c⟩
theorem grow_0 {B : Nat → Nat → Nat} {s v r : Nat} : grow B s v r 0 = v := by unfold grow; exact Nat.or_zero v
theorem reach_in {σ : GM} {n : Nat} {B : Nat → Nat → Nat} (hB : ptB σ n B) (hb : ∀ i j, B i j ≤ 20) {s v r : Nat} (hr : r < 12) (k10 : Int32 → Int32 → Int32 → Option Int32) (v4 : Int32) (v5 : Nat) :
    f_X3_reachedFrom_L46 σ n k10 (nI s) v4 (nI v5) (nI r) 5000 (nI v) (0 : Int32) = k10 (nI (grow B s v r 12)) v4 (nI (v5 + 1)) := by
  refine lq5 12 (by omega) (fun k a i => f_X3_reachedFrom_L46 σ n k10 (nI s) v4 (nI v5) (nI r) k a i) (fun q a => a = nI (grow B s v r q)) (fun z => z = k10 (nI (grow B s v r 12)) v4 (nI (v5 + 1))) (nI v) (by rw [grow_0]) ?_ ?_
  · intro k q a hq ha
    subst ha
    have hbq := hb r q
    refine Or.inl ⟨_, rfl, fun z hz => ?_⟩
    unfold f_X3_reachedFrom_L46
    rw [i12, le_n hq (by omega), linesOf_at hB hr hq, ob_s, i0]
    by_cases e : B r q = 0
    · rw [grow_n (Or.inl e)] at hz
      rw [le_y (by omega) (by omega), nm_v, i1, nI_add]
      exact hz
    · rw [grow_y e] at hz
      rw [le_n (by omega) (by omega), nm_v, nI_bit hq, nI_land, nI_lor, nm_v, i1, nI_add]
      exact hz
  · intro k a ha
    subst ha
    unfold f_X3_reachedFrom_L46
    rw [i12, le_y (Nat.le_refl 12) (by omega), nm_v, i1, nI_add]
theorem nI_ne_i {a b : Nat} (ha : a < 2 ^ 31) (hb : b < 2 ^ 31) (h : a ≠ b) : ¬ nI a = nI b := fun e => h ((nI_eq ha hb).mp e)
theorem reachedFrom_at {σ : GM} {n : Nat} {B : Nat → Nat → Nat} (hB : ptB σ n B) (hb : ∀ i j, B i j ≤ 20) {p s : Nat} (hp : p < 12) (hs : s < 4096) :
    ∃ R, f_X3_reachedFrom σ n (nI p) (nI s) = some (nI R) ∧ isC B s p R ∧ R < 4096 := by
  have key : ∀ (k v5 v3 v4 : Nat), v5 ≤ 12 → 12 < v5 + k → v3 < 4096 → subS v4 v3 → v3.testBit p = true → (∀ q, v3.testBit q = true → (q = p ∨ s.testBit q = true) ∧ conn B s p q) → (∀ i j, v4.testBit i = true → s.testBit j = true → B i j ≠ 0 → v3.testBit j = true) → pc v4 12 = v5 →
      ∃ R, f_X3_reachedFrom_L10 σ n (nI s) k (nI v3) (nI v4) (nI v5) = some (nI R) ∧ isC B s p R ∧ R < 4096 := by
    intro k
    induction k with
    | zero => intro v5 v3 v4 a b; omega
    | succ k ih =>
      intro v5 v3 v4 h1 h2 h3 h4 h5 h6 h7 h8
      have hv4 := subS_lt h4 h3
      by_cases e : v3 = v4
      · subst e
        refine ⟨v3, ?_, ⟨h5, h7, h6⟩, h3⟩
        unfold f_X3_reachedFrom_L10
        by_cases f : 12 ≤ v5
        · rw [i12, le_y f (by omega)]
        · rw [i12, le_n (by omega) (by omega), if_pos rfl]
      · have hd0 : dif v3 v4 ≠ 0 := fun h => e (Nat.le_antisymm (subS_le ((sub_dif (b32 h3)).mp h)) (subS_le h4))
        have hd := dif_lt (b := v4) (n := 12) h3
        obtain ⟨m1, m2, m3⟩ := lo_all _ hd hd0
        have m2' := m2
        rw [tb_dif (b32 h3), Bool.and_eq_true] at m2'
        have m4 : v4.testBit (lo (dif v3 v4)) = false := by simpa using m2'.2
        have hpl := pc_lt h4 m1 m2'.1 m4
        have hp12 := pc_le v3 12
        have hg : ∀ i, v3.testBit i = true → (grow B s v3 (lo (dif v3 v4)) 12).testBit i = true := fun i hi => grow_t.mpr (Or.inl hi)
        obtain ⟨R, g1, g2⟩ := ih (v5 + 1) (grow B s v3 (lo (dif v3 v4)) 12) (v4 ||| 2 ^ lo (dif v3 v4)) (by omega) (by omega) (grow_lt h3 hs)
          (fun i hi => by
            rcases tb_or.mp hi with hi | hi
            · exact hg i (h4 i hi)
            · rw [← tb_two.mp hi]; exact hg _ m2'.1) (hg p h5)
          (fun q hq => by
            rcases grow_t.mp hq with hq | ⟨a, b, c⟩
            · exact h6 q hq
            · exact ⟨Or.inr b, fun T hT hc => hc _ q ((h6 _ m2'.1).2 T hT hc) b c⟩)
          (fun i j hi hj hij => by
            rcases tb_or.mp hi with hi | hi
            · exact hg j (h7 i j hi hj hij)
            · rw [← tb_two.mp hi] at hij
              exact grow_t.mpr (Or.inr ⟨tb_lt (n := 12) hj hs, hj, hij⟩))
          (by rw [pc_put m1 m4, h8])
        refine ⟨R, ?_, g2⟩
        unfold f_X3_reachedFrom_L10
        rw [i12, le_n (by omega) (by omega), eq_n e (by omega) (by omega), nI_dif, lowest_at hd hd0, ob_s, nm_v, nI_set m1, reach_in hB hb m1]
        exact g1
  obtain ⟨R, g1, g2⟩ := key 5000 0 (2 ^ p) 0 (by omega) (by omega) (p2_lt hp) (fun i hi => by rw [Nat.zero_testBit] at hi; cases hi) (tb_two.mpr rfl)
    (fun q hq => by rw [← tb_two.mp hq]; exact ⟨Or.inl rfl, fun T h _ => h⟩) (fun i j hi => by rw [Nat.zero_testBit] at hi; cases hi) pc0
  refine ⟨R, ?_, g2⟩
  unfold f_X3_reachedFrom
  rw [nI_bit hp, nm_v]
  exact g1
theorem partsIn_at {σ : GM} {n : Nat} {B : Nat → Nat → Nat} (hB : ptB σ n B) (hb : ∀ i j, B i j ≤ 20) (hy : symB B) {s : Nat} (hs : s < 4096) :
    f_X3_partsIn σ n (nI s) = some (nI (CC B s)) := by
  unfold f_X3_partsIn
  have key : ∀ (k q v c : Nat), q ≤ 12 → 12 < q + k → v < 4096 → (∀ i, i < q → v.testBit i = false) → c + CC B v = CC B s → f_X3_partsIn_L7 σ n k (nI v) (nI c) (nI q) = some (nI (CC B s)) := by
    intro k
    induction k with
    | zero => intro q v c a b; omega
    | succ k ih =>
      intro q v c h1 h2 h3 h4 h5
      unfold f_X3_partsIn_L7
      by_cases e : q = 12
      · subst e
        have : v = 0 := by
          apply Nat.eq_of_testBit_eq
          intro i
          rw [Nat.zero_testBit]
          rcases Nat.lt_or_ge i 12 with c | c
          · exact h4 i c
          · exact Nat.testBit_lt_two_pow (Nat.lt_of_lt_of_le h3 (Nat.pow_le_pow_right (n := 2) (by decide) c))
        subst this
        rw [CC_0] at h5
        rw [i12, le_y (Nat.le_refl 12) (by omega), ← h5, Nat.add_zero]
      · have hq : q < 12 := by omega
        rw [i12, le_n hq (by omega), holds_at h3 hq, ob_s]
        cases ht : v.testBit q with
        | false =>
          rw [bz_y rfl, nm_v, i1, nI_add]
          refine ih (q + 1) v c (by omega) (by omega) h3 (fun i hi => ?_) h5
          by_cases f : i = q
          · rw [f]; exact ht
          · exact h4 i (by omega)
        | true =>
          obtain ⟨R, r1, r2, r3⟩ := reachedFrom_at hB hb hq h3
          rw [bz_n rfl, nm_v, r1, ob_s, nm_v, nI_dif, nm_v, i1, nI_add, nI_add]
          have hcp := CC_part hy h3 ht r2
          refine ih (q + 1) (dif v R) (c + 1) (by omega) (by omega) (dif_lt (n := 12) h3) (fun i hi => ?_) (by omega)
          rw [tb_dif (b32 h3)]
          by_cases f : i = q
          · rw [f, r2.1]; simp
          · rw [h4 i (by omega)]; rfl
  exact key 5000 0 s 0 (by omega) (by omega) hs (fun i hi => absurd hi (by omega)) (by omega)
