/-! PARTS, as the reference finds them; its open sets -/
theorem part_in {σ : GM} {B : Nat → Nat → Nat} (hB : rbB σ 62 B) (hb : ∀ i j, B i j ≤ 20) {s u v r : Nat} (hr : r < 12) (hu : u < 4096) (hs : s < 4096) (k7 k19 : Int32 → Int32 → Option Int32) :
    f_X12_partOf_L29 σ k7 k19 (nI s) (nI u) (nI r) 5000 (nI v) (0 : Int32) = k19 (nI (if u.testBit r then grow B s v r 12 else v)) (nI (r + 1)) := by
  refine lq5 12 (by omega) (fun k a i => f_X12_partOf_L29 σ k7 k19 (nI s) (nI u) (nI r) k a i) (fun q a => a = nI (if u.testBit r then grow B s v r q else v)) (fun z => z = k19 (nI (if u.testBit r then grow B s v r 12 else v)) (nI (r + 1))) (nI v) (by rw [grow_0]; split <;> rfl) ?_ ?_
  · intro k q a hq ha
    subst ha
    have hbq := hb r q
    refine Or.inl ⟨_, rfl, fun z hz => ?_⟩
    unfold f_X12_partOf_L29
    rw [i12, le_n hq (by omega), has_at hu hr, ob_s]
    cases hur : u.testBit r with
    | false =>
      rw [hur] at hz
      rw [bz_y rfl, nm_v, i1, nI_add]
      exact hz
    | true =>
      rw [hur, if_pos rfl] at hz
      rw [bz_n rfl, has_at hs hq, ob_s, if_pos rfl]
      cases hsq : s.testBit q with
      | false =>
        rw [grow_n (Or.inr hsq)] at hz
        rw [bz_y rfl, nm_v, i1, nI_add]
        exact hz
      | true =>
        rw [bz_n rfl, between_at hB hr hq, ob_s, i0]
        by_cases e : B r q = 0
        · rw [grow_n (Or.inl e)] at hz
          rw [le_y (by omega) (by omega), nm_v, i1, nI_add]
          exact hz
        · have h2 : 2 ^ q &&& s = 2 ^ q := sub_and.mpr (fun i hi => by rw [← tb_two.mp hi]; exact hsq)
          rw [grow_y e, h2] at hz
          rw [le_n (by omega) (by omega), nm_v, nI_set hq, nm_v, i1, nI_add]
          exact hz
  · intro k a ha
    subst ha
    unfold f_X12_partOf_L29
    rw [i12, le_y (Nat.le_refl 12) (by omega), nm_v, i1, nI_add]
theorem part_out {σ : GM} {B : Nat → Nat → Nat} (hB : rbB σ 62 B) (hb : ∀ i j, B i j ≤ 20) {s u : Nat} (hu : u < 4096) (hs : s < 4096) (k7 : Int32 → Int32 → Option Int32) :
    ∃ V, f_X12_partOf_L19 σ k7 (nI s) (nI u) 5000 (nI u) (0 : Int32) = k7 (nI V) (nI u) ∧ V < 4096 ∧ ∀ i, V.testBit i = true ↔ (u.testBit i = true ∨ ∃ r, r < 12 ∧ u.testBit r = true ∧ s.testBit i = true ∧ B r i ≠ 0) := by
  refine lq5 12 (by omega) (fun k a i => f_X12_partOf_L19 σ k7 (nI s) (nI u) k a i) (fun q a => ∃ V, a = nI V ∧ V < 4096 ∧ ∀ i, V.testBit i = true ↔ (u.testBit i = true ∨ ∃ r, r < q ∧ u.testBit r = true ∧ s.testBit i = true ∧ B r i ≠ 0)) (fun z => ∃ V, z = k7 (nI V) (nI u) ∧ V < 4096 ∧ ∀ i, V.testBit i = true ↔ (u.testBit i = true ∨ ∃ r, r < 12 ∧ u.testBit r = true ∧ s.testBit i = true ∧ B r i ≠ 0)) (nI u) ⟨u, rfl, hu, fun i => ⟨Or.inl, fun h => by
    rcases h with h | ⟨r, h, -⟩
    · exact h
    · omega⟩⟩ ?_ ?_
  · intro k q a hq ⟨V, ha, hV, hi⟩
    subst ha
    refine Or.inl ⟨nI (if u.testBit q then grow B s V q 12 else V), ⟨_, rfl, ?_, ?_⟩, fun z hz => ?_⟩
    · split
      · exact grow_lt hV hs
      · exact hV
    · intro i
      cases huq : u.testBit q with
      | false =>
        rw [if_neg (by decide), hi i]
        constructor
        · rintro (a | ⟨r, b, c⟩)
          · exact Or.inl a
          · exact Or.inr ⟨r, by omega, c⟩
        · rintro (a | ⟨r, b, c, d⟩)
          · exact Or.inl a
          · by_cases e : r = q
            · subst e; rw [huq] at c; cases c
            · exact Or.inr ⟨r, by omega, c, d⟩
      | true =>
        rw [if_pos rfl, grow_t, hi i]
        constructor
        · rintro ((a | ⟨r, b, c⟩) | ⟨a, b, c⟩)
          · exact Or.inl a
          · exact Or.inr ⟨r, by omega, c⟩
          · exact Or.inr ⟨q, by omega, huq, b, c⟩
        · rintro (a | ⟨r, b, c, d, e⟩)
          · exact Or.inl (Or.inl a)
          · by_cases f : r = q
            · subst f; exact Or.inr ⟨tb_lt (n := 12) d hs, d, e⟩
            · exact Or.inl (Or.inr ⟨r, by omega, c, d, e⟩)
    · unfold f_X12_partOf_L19
      rw [i12, le_n hq (by omega), part_in hB hb hq hu hs]
      exact hz
  · intro k a ⟨V, ha, hV, hi⟩
    subst ha
    refine ⟨V, ?_, hV, hi⟩
    unfold f_X12_partOf_L19
    rw [i12, le_y (Nat.le_refl 12) (by omega)]
theorem partOf_at {σ : GM} {B : Nat → Nat → Nat} (hB : rbB σ 62 B) (hb : ∀ i j, B i j ≤ 20) {p s : Nat} (hp : p < 12) (hs : s < 4096) :
    ∃ R, f_X12_partOf σ (nI p) (nI s) = some (nI R) ∧ isC B s p R ∧ R < 4096 := by
  have key : ∀ (k v u : Nat), 4096 < u + k → v < 4096 → u < 4096 → (v = u ∨ u < v) → v.testBit p = true → (∀ q, v.testBit q = true → (q = p ∨ s.testBit q = true) ∧ conn B s p q) → (∀ i j, u.testBit i = true → s.testBit j = true → B i j ≠ 0 → v.testBit j = true) →
      ∃ R, f_X12_partOf_L7 σ (nI s) k (nI v) (nI u) = some (nI R) ∧ isC B s p R ∧ R < 4096 := by
    intro k
    induction k with
    | zero => intro v u a b; omega
    | succ k ih =>
      intro v u h1 h2 h3 h4 h5 h6 h7
      unfold f_X12_partOf_L7
      by_cases e : v = u
      · subst e
        exact ⟨v, by rw [if_pos rfl], ⟨h5, h7, h6⟩, h2⟩
      · obtain ⟨V, g1, g2, g3⟩ := part_out hB hb h2 hs (fun v3' v4' => f_X12_partOf_L7 σ (nI s) k v3' v4')
        have hsub : subS v V := fun i hi => (g3 i).mpr (Or.inl hi)
        have hle := subS_le hsub
        obtain ⟨R, r1, r2⟩ := ih V v (by omega) g2 h2 (by omega) (hsub p h5) (fun q hq => by
            rcases (g3 q).mp hq with hq | ⟨r, -, b, c, d⟩
            · exact h6 q hq
            · exact ⟨Or.inr c, fun T hT hc => hc r q ((h6 r b).2 T hT hc) c d⟩) (fun i j hi hj hij => (g3 j).mpr (Or.inr ⟨i, tb_lt (n := 12) hi h2, hi, hj, hij⟩))
        refine ⟨R, ?_, r2⟩
        rw [eq_n e (by omega) (by omega)]
        exact g1.trans r1
  have h0 : (2 : Nat) ^ p ≠ 0 := Nat.ne_of_gt (Nat.two_pow_pos p)
  obtain ⟨R, g1, g2⟩ := key 5000 (2 ^ p) 0 (by omega) (p2_lt hp) (by omega) (Or.inr (Nat.two_pow_pos p)) (tb_two.mpr rfl)
    (fun q hq => by rw [← tb_two.mp hq]; exact ⟨Or.inl rfl, fun T h _ => h⟩) (fun i j hi => by rw [Nat.zero_testBit] at hi; cases hi)
  refine ⟨R, ?_, g2⟩
  unfold f_X12_partOf
  rw [nI_bit hp, nm_v]
  exact g1
theorem parts_at {σ : GM} {B : Nat → Nat → Nat} (hB : rbB σ 62 B) (hb : ∀ i j, B i j ≤ 20) (hy : symB B) {s : Nat} (hs : s < 4096) :
    f_X12_parts σ (nI s) = some (nI (CC B s)) := by
  unfold f_X12_parts
  have key : ∀ (k v c : Nat), pc v 12 < k → v < 4096 → subS v s → closed B s v → c + CC B v = CC B s → f_X12_parts_L4 σ (nI s) k (nI v) (nI c) = some (nI (CC B s)) := by
    intro k
    induction k with
    | zero => intro v c a; omega
    | succ k ih =>
      intro v c h1 h2 h3 h4 h5
      unfold f_X12_parts_L4
      by_cases e : v = 0
      · subst e
        rw [CC_0] at h5
        rw [if_pos (show nI 0 = 0 from rfl), ← h5, Nat.add_zero]
      · obtain ⟨m1, m2, m3⟩ := lo_all v h2 e
        obtain ⟨R, r1, r2, r3⟩ := partOf_at hB hb m1 hs
        rw [i0, eq_n e (by omega) (by omega), least_at h2 e, ob_s, r1, ob_s, nm_v, nI_dif, nm_v, i1, nI_add]
        have hRv : subS R v := fun i hi => (r2.2.2 i hi).2 v m2 h4
        have hc : isC B v (lo v) R := by
          refine ⟨r2.1, closed_sub h3 r2.2.1, fun q hq => ⟨Or.inr (hRv q hq), fun T hT hc => ?_⟩⟩
          have h6 := (r2.2.2 q hq).2 (T &&& v) (tb_and.mpr ⟨hT, m2⟩) (fun i j hi hj hij => by
            obtain ⟨a, b⟩ := tb_and.mp hi
            have := h4 i j b hj hij
            exact tb_and.mpr ⟨hc i j a this hij, this⟩)
          exact (tb_and.mp h6).1
        have hcp := CC_part hy h2 m2 hc
        have hsub : subS (dif v R) v := dif_sub h2
        refine ih (dif v R) (c + 1) ?_ (dif_lt (n := 12) h2) (subS_tr hsub h3) ?_ (by omega)
        · have := pc_lt hsub m1 m2 (by rw [tb_dif (b32 h2), r2.1]; simp)
          omega
        · intro i j hi hj hij
          rw [tb_dif (b32 h2), Bool.and_eq_true] at hi ⊢
          refine ⟨h4 i j hi.1 hj hij, ?_⟩
          cases f : R.testBit j with
          | false => rfl
          | true =>
            have := r2.2.1 j i f (h3 i hi.1) (by rw [hy j i]; exact hij)
            rw [this] at hi
            exact absurd hi.2 (by decide)
  exact key 5000 s 0 (by have := pc_le s 12; omega) hs (fun i h => h) (fun i j _ hj _ => hj) (by omega)
theorem nI_sub_eq {a b c : Nat} (ha : a < 2 ^ 20) (hb : b < 2 ^ 20) (hc : c ≤ b) : (nI a = nI b - nI c) ↔ a + c = b := by
  rw [nI_sub hc, nI_eq (by omega) (by omega)]
  omega
theorem isOpen_at {σ : GM} {B : Nat → Nat → Nat} (hB : rbB σ 62 B) (hb : ∀ i j, B i j ≤ 20) (hy : symB B) {s : Nat} (hs : s < 4096) {b : Bool} (hf : b = true ↔ Free B s) :
    f_X12_isOpen σ (nI s) = some (nI (bI b)) := by
  unfold f_X12_isOpen
  rw [lineMany_at hB hb hs, ob_s, bits_at hs, ob_s, parts_at hB hb hy hs, ob_s]
  have h1 := eS_le hb s
  have h2 := pc_le s 12
  have h3 := CC_le B s
  have h4 := free_opn hy 4096 s hs hs
  have h5 : (nI (eS B s / 2) = nI (pc s 12) - nI (CC B s)) ↔ b = true := by
    rw [nI_sub_eq (by omega) (by omega) h3, hf, h4]
    exact Iff.rfl
  cases b with
  | true => rw [if_pos (h5.mpr rfl)]; rfl
  | false => rw [if_neg (fun q => by have := h5.mp q; cases this)]; rfl
theorem isCut_at {σ : GM} {B : Nat → Nat → Nat} (hB : rbB σ 62 B) (hb : ∀ i j, B i j ≤ 20) (hy : symB B) {s u : Nat} (hs : s < 4096) {b : Bool} (hf : b = true ↔ Free B (dif s u)) :
    f_X12_isCut σ (nI u) (nI s) = some (nI (bI b)) := by
  unfold f_X12_isCut
  rw [nI_dif, isOpen_at hB hb hy (dif_lt (n := 12) hs) hf, ob_s, nI_bIm]
