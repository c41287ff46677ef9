/-! RINGS APART FROM ONE ANOTHER -/
def pk (P : Nat → Prop) : Nat → Nat → Prop
  | 0, _ => True
  | m + 1, v => ∃ r, P r ∧ subS r v ∧ pk P m (dif v r)
def pkv (P : Nat → Prop) (v m : Nat) : Prop := pk P m v ∧ ¬ pk P (m + 1) v
theorem dif_mono {a b c : Nat} (hb : b < 4096) (h : subS a b) : subS (dif a c) (dif b c) := by
  intro i hi
  rw [tb_dif (b32 (subS_lt h hb)), Bool.and_eq_true] at hi
  rw [tb_dif (b32 hb), Bool.and_eq_true]
  exact ⟨h i hi.1, hi.2⟩
theorem dif_anti {a b c : Nat} (ha : a < 4096) (h : subS b c) : subS (dif a c) (dif a b) := by
  intro i hi
  rw [tb_dif (b32 ha), Bool.and_eq_true] at hi ⊢
  refine ⟨hi.1, ?_⟩
  cases e : b.testBit i with
  | false => rfl
  | true => rw [h i e] at hi; exact absurd hi.2 (by decide)
theorem dif_dif {a b c : Nat} (ha : a < 4096) : dif (dif a b) c = dif (dif a c) b := by
  apply Nat.eq_of_testBit_eq
  intro i
  rw [tb_dif (b32 (dif_lt (n := 12) ha)), tb_dif (b32 (dif_lt (n := 12) ha)), tb_dif (b32 ha), tb_dif (b32 ha)]
  cases a.testBit i <;> cases b.testBit i <;> cases c.testBit i <;> rfl
theorem pk_mono {P : Nat → Prop} : ∀ (m u v : Nat), v < 4096 → subS u v → pk P m u → pk P m v := by
  intro m
  induction m with
  | zero => intro u v _ _ _; trivial
  | succ m ih =>
    intro u v hv h ⟨r, h1, h2, h3⟩
    exact ⟨r, h1, subS_tr h2 h, ih _ _ (dif_lt (n := 12) hv) (dif_mono hv h) h3⟩
theorem pk_down {P : Nat → Prop} : ∀ (m v : Nat), v < 4096 → pk P (m + 1) v → pk P m v := by
  intro m
  induction m with
  | zero => intro v _ _; trivial
  | succ m ih =>
    intro v hv ⟨r, h1, h2, h3⟩
    exact ⟨r, h1, h2, ih _ (dif_lt (n := 12) hv) h3⟩
theorem pk_leq {P : Nat → Prop} {v : Nat} (hv : v < 4096) {m n : Nat} (h : m ≤ n) (hp : pk P n v) : pk P m v := by
  induction n with
  | zero => rw [show m = 0 by omega]; trivial
  | succ n ih =>
    by_cases e : m = n + 1
    · rw [e]; exact hp
    · exact ih (by omega) (pk_down n v hv hp)
theorem pkv_uni {P : Nat → Prop} {v m n : Nat} (hv : v < 4096) (h : pkv P v m) (g : pkv P v n) : m = n := by
  rcases Nat.lt_trichotomy m n with c | c | c
  · exact absurd (pk_leq hv c g.1) h.2
  · exact c
  · exact absurd (pk_leq hv c h.1) g.2
theorem pk_pc {P : Nat → Prop} (h0 : ¬ P 0) : ∀ (m v : Nat), v < 4096 → pk P m v → m ≤ pc v 12 := by
  intro m
  induction m with
  | zero => intro v _ _; exact Nat.zero_le _
  | succ m ih =>
    intro v hv ⟨r, h1, h2, h3⟩
    have hr0 : r ≠ 0 := by rintro rfl; exact h0 h1
    have hr4 := subS_lt h2 hv
    obtain ⟨m1, m2, m3⟩ := lo_all r hr4 hr0
    have h4 := ih _ (dif_lt (n := 12) hv) h3
    have h5 := pc_lt (dif_sub (b := r) hv) m1 (h2 _ m2) (by rw [tb_dif (b32 hv), m2]; simp)
    omega
/-- the ring at the lowest point, or none there -/
theorem pk_lo {P : Nat → Prop} {l : Nat} : ∀ (m v : Nat), v < 4096 → v.testBit l = true → (pk P (m + 1) v ↔ (pk P (m + 1) (dif v (2 ^ l)) ∨ ∃ r, P r ∧ subS r v ∧ r.testBit l = true ∧ pk P m (dif v r))) := by
  intro m
  induction m with
  | zero =>
    intro v hv hl
    constructor
    · intro ⟨r, h1, h2, h3⟩
      cases e : r.testBit l with
      | true => exact Or.inr ⟨r, h1, h2, e, h3⟩
      | false =>
        left
        refine ⟨r, h1, fun i hi => (tb_dif1 hv).mpr ⟨h2 i hi, ?_⟩, trivial⟩
        rintro rfl; rw [e] at hi; cases hi
    · rintro (h | ⟨r, h1, h2, -, h3⟩)
      · exact pk_mono 1 _ _ hv (dif_sub hv) h
      · exact ⟨r, h1, h2, h3⟩
  | succ m ih =>
    intro v hv hl
    constructor
    · intro ⟨r, h1, h2, h3⟩
      cases e : r.testBit l with
      | true => exact Or.inr ⟨r, h1, h2, e, h3⟩
      | false =>
        have hvr : dif v r < 4096 := dif_lt (n := 12) hv
        rcases (ih (dif v r) hvr (by rw [tb_dif (b32 hv), hl, e]; rfl)).mp h3 with g | ⟨r', g1, g2, g3, g4⟩
        · left
          refine ⟨r, h1, fun i hi => (tb_dif1 hv).mpr ⟨h2 i hi, ?_⟩, ?_⟩
          · rintro rfl; rw [e] at hi; cases hi
          · rw [dif_dif hv]; exact g
        · right
          refine ⟨r', g1, subS_tr g2 (dif_sub hv), g3, ⟨r, h1, fun i hi => ?_, ?_⟩⟩
          · rw [tb_dif (b32 hv), h2 i hi]
            cases f : r'.testBit i with
            | false => rfl
            | true =>
              have := g2 i f
              rw [tb_dif (b32 hv), hi] at this
              simp at this
          · rw [dif_dif hv]; exact g4
    · rintro (h | ⟨r, h1, h2, -, h3⟩)
      · exact pk_mono _ _ _ hv (dif_sub hv) h
      · exact ⟨r, h1, h2, h3⟩
theorem pk_MR {N : NT} (hw : wf N) : ∀ (m v : Nat), v < 4096 → (pk (isM N.bt N.here) m v ↔ pk (isR N.bt) m v) := by
  intro m
  induction m with
  | zero => intro v _; exact Iff.rfl
  | succ m ih =>
    intro v hv
    constructor
    · intro ⟨r, h1, h2, h3⟩
      exact ⟨r, isM_isR hw.2.2.2.2.1 hw.h4096 h1, h2, (ih _ (dif_lt (n := 12) hv)).mp h3⟩
    · intro ⟨r, h1, h2, h3⟩
      obtain ⟨-, -, M, hM, hs⟩ := isR_sub hw h1
      exact ⟨M, hM, subS_tr hs h2, pk_mono _ _ _ (dif_lt (n := 12) hv) (dif_anti hv hs) ((ih _ (dif_lt (n := 12) hv)).mpr h3)⟩
theorem pkv_MR {N : NT} (hw : wf N) {v m : Nat} (hv : v < 4096) : pkv (isM N.bt N.here) v m ↔ pkv (isR N.bt) v m := by
  unfold pkv
  rw [pk_MR hw m v hv, pk_MR hw (m + 1) v hv]
/-- how the best of a set comes from smaller ones -/
theorem pkv_lo {P : Nat → Prop} {l v m0 A : Nat} (hv : v < 4096) (hl : v.testBit l = true) (h0 : pkv P (dif v (2 ^ l)) m0) (hA : pk P A v) (hm : m0 ≤ A) (hr : ∀ r m, P r → subS r v → r.testBit l = true → pk P m (dif v r) → m + 1 ≤ A) : pkv P v A := by
  refine ⟨hA, fun h => ?_⟩
  rcases (pk_lo A v hv hl).mp h with g | ⟨r, g1, g2, g3, g4⟩
  · exact h0.2 (pk_leq (dif_lt (n := 12) hv) (by omega) g)
  · have := hr r A g1 g2 g3 g4
    omega
theorem pkv_0 {P : Nat → Prop} (h0 : ¬ P 0) : pkv P 0 0 := by
  refine ⟨trivial, fun ⟨r, h1, h2, _⟩ => ?_⟩
  have := subS_le h2
  exact h0 (by rwa [show r = 0 by omega] at h1)
def packOK (σ : GM) (B : Nat → Nat → Nat) (h : Nat) : Prop := ∀ S, subS S h → ∃ m, σ.1 56 S = nI m ∧ pkv (isM B h) S m
theorem mostIn_at {σ : GM} {s m : Nat} (hs : s < 4096) (h : σ.1 56 s = nI m) : f_X4_mostIn σ (nI s) = some (nI m) := by
  unfold f_X4_mostIn
  rw [i0, lt_n (by omega) (by omega), show (4096 : Int32) = nI 4096 from rfl, le_n hs (by omega), bnd_n hs (by omega), nI_clamp (by omega), h]
theorem startOf_at {σ : GM} {v x : Nat} (hv : v ≤ 12) (h : stA σ v = nI x) : f_X8_startOf σ (nI v) = some (nI x) := by
  unfold f_X8_startOf
  unfold stA at h
  by_cases e : v < 12
  · rw [if_pos e] at h
    rw [i0, lt_n (by omega) (by omega), i12, le_n e (by omega), bnd_n e (by omega), nI_clamp (by omega), h]
  · rw [if_neg e] at h
    rw [i0, lt_n (by omega) (by omega), i12, le_y (by omega) (by omega), h]
theorem mostLow_at {σ : GM} {N : NT} (hw : wf N) (hk : ringsOK σ N.bt N.here) {v : Nat} (hv : subS v N.here) (hv0 : v ≠ 0) (hm : ∀ S, subS S v → S < v → ∃ m, σ.1 56 S = nI m ∧ pkv (isM N.bt N.here) S m) :
    ∃ m, f_X4_mostWithLowest σ (nI v) = some (nI m) ∧ pkv (isM N.bt N.here) v m := by
  obtain ⟨ht, L, f, s, h1, h2, h3, h4, h5, h6⟩ := hk
  have hh := hw.h4096
  have hv4 := subS_lt hv hh
  have hP0 : ¬ isM N.bt N.here 0 := fun h => isM_0 h rfl
  obtain ⟨l1, l2, l3⟩ := lo_all v hv4 hv0
  have hd4 : dif v (2 ^ lo v) < 4096 := dif_lt (n := 12) hv4
  obtain ⟨m0, z1, z2⟩ := hm _ (dif_sub hv4) (dif_lt' hv4 l2)
  have hm0 := pk_pc hP0 m0 _ hd4 z2.1
  have hpv := pc_le (dif v (2 ^ lo v)) 12
  have s1 := h5 (lo v) (by omega)
  have s2 := h5 (lo v + 1) (by omega)
  unfold f_X4_mostWithLowest
  rw [lowest_at hv4 hv0, ob_s, nI_low hv4 hv0, mostIn_at hd4 z1, ob_s, i1, nI_add, startOf_at (by omega) s2.1, ob_s, startOf_at (by omega) s1.1, ob_s]
  have hPi : ∀ A, A = m0 → pk (isM N.bt N.here) A v := fun A e => by rw [e]; exact pk_mono _ _ _ hv4 (dif_sub hv4) z2.1
  by_cases hse : s (lo v) ≤ s (lo v + 1)
  · refine lq (s (lo v + 1)) (fun k (a : Int32) i => f_X4_mostWithLowest_L32 σ (nI v) (nI (s (lo v + 1))) k a i) (fun q a => s (lo v) ≤ q ∧ ∃ A, a = nI A ∧ m0 ≤ A ∧ pk (isM N.bt N.here) A v ∧ ∀ i, s (lo v) ≤ i → i < q → subS (f i) v → ∀ m, pk (isM N.bt N.here) m (dif v (f i)) → m + 1 ≤ A) (fun z => ∃ m, z = some (nI m) ∧ pkv (isM N.bt N.here) v m) ?_ ?_ 5000 (s (lo v)) (nI m0) hse (by omega) ⟨Nat.le_refl _, m0, rfl, Nat.le_refl _, hPi m0 rfl, fun i a b => absurd b (by omega)⟩
    · intro k q a hq ⟨g0, A, g1, g2, g3, g4⟩
      subst g1
      have hA := pk_pc hP0 A v hv4 g3
      have hpv2 := pc_le v 12
      obtain ⟨hc, hM⟩ := h3 q (by omega)
      have hf4 := subS_lt hM.1 hh
      have hra := ringAt_at h1 h2 (show q < L by omega) hc
      by_cases e : subS (f q) v
      · have hdl : dif v (f q) < v := by
          have hf0 := isM_0 hM
          obtain ⟨t1, t2, t3⟩ := lo_all (f q) hf4 hf0
          have q1 := subS_le (dif_sub (b := f q) hv4)
          rcases Nat.lt_or_ge (dif v (f q)) v with c | c
          · exact c
          · have q2 : dif v (f q) = v := Nat.le_antisymm q1 c
            have q3 : (dif v (f q)).testBit (lo (f q)) = true := by rw [q2]; exact e _ t2
            rw [tb_dif (b32 hv4), t2] at q3
            simp at q3
        obtain ⟨mr, y1, y2⟩ := hm _ (dif_sub hv4) hdl
        have hd4' : dif v (f q) < 4096 := dif_lt (n := 12) hv4
        have hmr := pk_pc hP0 mr _ hd4' y2.1
        have hpr := pc_le (dif v (f q)) 12
        have hmax : ∀ m, pk (isM N.bt N.here) m (dif v (f q)) → m ≤ mr := by
          intro m hm2
          rcases Nat.lt_or_ge mr m with c | c
          · exact absurd (pk_leq hd4' c hm2) y2.2
          · exact c
        have h0 : dif (f q) v = 0 := (sub_dif (b32 hf4)).mpr e
        by_cases c : A < 1 + mr
        · refine Or.inl ⟨nI (1 + mr), ⟨by omega, 1 + mr, rfl, by omega, ?_, ?_⟩, fun r hr => ?_⟩
          · rw [Nat.add_comm]; exact ⟨f q, hM, e, y2.1⟩
          · intro i a b c2 m hm2
            by_cases e2 : i = q
            · subst e2; have := hmax m hm2; omega
            · have := g4 i a (by omega) c2 m hm2; omega
          · unfold f_X4_mostWithLowest_L32
            rw [le_n hq (by omega), hra, ob_s, nI_dif, h0, if_pos (show nI 0 = 0 from rfl), nI_dif, mostIn_at hd4' y1, ob_s, i1, nI_add, lt_y c (by omega), nm_v, nm_v, nI_add]
            exact hr
        · refine Or.inl ⟨nI A, ⟨by omega, A, rfl, g2, g3, ?_⟩, fun r hr => ?_⟩
          · intro i a b c2 m hm2
            by_cases e2 : i = q
            · subst e2; have := hmax m hm2; omega
            · exact g4 i a (by omega) c2 m hm2
          · unfold f_X4_mostWithLowest_L32
            rw [le_n hq (by omega), hra, ob_s, nI_dif, h0, if_pos (show nI 0 = 0 from rfl), nI_dif, mostIn_at hd4' y1, ob_s, i1, nI_add, lt_n (by omega) (by omega), nm_v, nm_v, nI_add]
            exact hr
      · have h0 : dif (f q) v ≠ 0 := fun z => e ((sub_dif (b32 hf4)).mp z)
        have hdl := dif_lt (b := v) (n := 12) hf4
        refine Or.inl ⟨nI A, ⟨by omega, A, rfl, g2, g3, ?_⟩, fun r hr => ?_⟩
        · intro i a b c2 m hm2
          by_cases e2 : i = q
          · subst e2; exact absurd c2 e
          · exact g4 i a (by omega) c2 m hm2
        · unfold f_X4_mostWithLowest_L32
          rw [le_n hq (by omega), hra, ob_s, nI_dif, i0, eq_n h0 (by omega) (by omega), nm_v, i1, nI_add]
          exact hr
    · intro k a ⟨g0, A, g1, g2, g3, g4⟩
      subst g1
      refine ⟨A, ?_, pkv_lo hv4 l2 z2 g3 g2 (fun r m r1 r2 r3 r4 => ?_)⟩
      · show f_X4_mostWithLowest_L32 σ (nI v) (nI (s (lo v + 1))) (k + 1) (nI A) (nI (s (lo v + 1))) = _
        unfold f_X4_mostWithLowest_L32
        rw [le_y (Nat.le_refl _) (by omega)]
      · obtain ⟨i, i1, i2⟩ := h4 r r1
        have hlo : lo r = lo v := by
          have hr4 := subS_lt r1.1 hh
          obtain ⟨t1, t2, t3⟩ := lo_all r hr4 (isM_0 r1)
          rcases Nat.lt_trichotomy (lo r) (lo v) with c | c | c
          · have := l3 _ c; rw [r2 _ t2] at this; cases this
          · exact c
          · rw [t3 _ c] at r3; cases r3
        have := (h6 i i1 (lo v) l1).mp (by rw [i2]; exact hlo)
        exact g4 i this.1 this.2 (by rw [i2]; exact r2) m (by rw [i2]; exact r4)
  · refine ⟨m0, ?_, pkv_lo hv4 l2 z2 (hPi m0 rfl) (Nat.le_refl _) (fun r m r1 r2 r3 r4 => ?_)⟩
    · unfold f_X4_mostWithLowest_L32
      rw [le_y (by omega) (by omega)]
    · obtain ⟨i, i1, i2⟩ := h4 r r1
      have hlo : lo r = lo v := by
        have hr4 := subS_lt r1.1 hh
        obtain ⟨t1, t2, t3⟩ := lo_all r hr4 (isM_0 r1)
        rcases Nat.lt_trichotomy (lo r) (lo v) with c | c | c
        · have := l3 _ c; rw [r2 _ t2] at this; cases this
        · exact c
        · rw [t3 _ c] at r3; cases r3
      have := (h6 i i1 (lo v) l1).mp (by rw [i2]; exact hlo)
      omega
