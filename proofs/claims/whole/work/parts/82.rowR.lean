/-! ROWS, as the reference reads them -/
def keepJ (σ σ' : GM) : Prop := (∀ m, m ≠ 60 → m ≠ 63 → m ≠ 68 → σ'.1 m = σ.1 m ∧ σ'.2 m = σ.2 m) ∧ ∀ i, i < 4 ∨ 9 < i → σ'.1 60 i = σ.1 60 i
theorem keepJ.rf (σ : GM) : keepJ σ σ := ⟨fun _ _ _ _ => ⟨rfl, rfl⟩, fun _ _ => rfl⟩
theorem keepJ.tr {a b c : GM} (h : keepJ a b) (g : keepJ b c) : keepJ a c := ⟨fun m h1 h2 h3 => ⟨(g.1 m h1 h2 h3).1.trans (h.1 m h1 h2 h3).1, (g.1 m h1 h2 h3).2.trans (h.1 m h1 h2 h3).2⟩, fun i hi => (g.2 i hi).trans (h.2 i hi)⟩
theorem keepJ.k {σ σ' : GM} (h : keepK σ σ') : keepJ σ σ' := ⟨fun m h1 _ _ => h.1 m h1, fun i hi => h.2 i (by omega)⟩
theorem keepJ.f {σ σ' : GM} {a : Nat} (h : fr σ σ' a (a + 1)) (ha : a = 63 ∨ a = 68) : keepJ σ σ' := ⟨fun m h1 h2 h3 => h m (by omega), fun i _ => by rw [(h 60 (by omega)).1]⟩
theorem keepJ.w {σ : GM} {i : Nat} {v : Int32} (h : i = 8 ∨ i = 9) : keepJ σ (wI σ 60 i v) := ⟨fun m h1 _ _ => wI_other m h1, fun j hj => by rw [wI_1, if_neg (by omega)]⟩
theorem rtp.j {σ σ' : GM} {x : TT} (h : rtp σ x) (hk : keepJ σ σ') : rtp σ' x := ⟨by rw [hk.2 3 (by omega)]; exact h.1, fun i hi => by rw [(hk.1 61 (by omega) (by omega) (by omega)).1]; exact h.2 i hi⟩
theorem tokR.co {σ σ' : GM} {x : TT} {p : Nat} (h : tokR σ x p) (e1 : σ'.1 60 = σ.1 60) (e2 : σ'.2 60 = σ.2 60) : tokR σ' x p := by
  obtain ⟨h1, h2, h3, h4, h5⟩ := h
  exact ⟨by rw [e1]; exact h1, by rw [e1]; exact h2, fun z => by rw [e2]; exact h3 z, fun z => by rw [e1]; exact h4 z, by rw [e1]; exact h5⟩
theorem tokR.f {σ σ' : GM} {x : TT} {p a b : Nat} (h : tokR σ x p) (hf : fr σ σ' a b) (hn : 60 < a) : tokR σ' x p := h.co (hf 60 (by omega)).1 (hf 60 (by omega)).2
def rwR (σ : GM) (s : RS) : Prop := rfAt σ 63 0 s.N ∧ (∀ i, i < s.N.told → σ.2 68 i = lN (s.m i)) ∧ σ.1 60 8 = nI 0
theorem rwR.k {σ σ' : GM} {s : RS} (h : rwR σ s) (hk : keepK σ σ') : rwR σ' s := ⟨h.1.co (hk.1 63 (by omega)).1, fun i hi => by rw [(hk.1 68 (by omega)).2]; exact h.2.1 i hi, by rw [hk.2 8 (by omega)]; exact h.2.2⟩
theorem run_c {x : TT} {j p c : Nat} {s : RS} (h : tkF s (tkK x p) (tkV x p) = .inl c) : runF x (j + 1) p s = .inl (c, tkP x p) := by
  rw [runF_s, h]; rfl
theorem run_s {x : TT} {j p : Nat} {s s' : RS} (h : tkF s (tkK x p) (tkV x p) = .inr (some s')) : runF x (j + 1) p s = runF x j (tkT x p) s' := by
  rw [runF_s, h]; rfl
theorem tk_kd {x : TT} {p : Nat} (h : tkK x p ≠ 0) (h1 : tkK x p ≠ 1) : skF x p < x.1 ∧ tkK x p = kdF x (skF x p) ∧ tkP x p = skF x p ∧ tkT x p = nxF x (skF x p) := by
  unfold tkK at h h1
  by_cases c : 600 < x.1 ∧ 600 ≤ skF x p
  · rw [if_pos c] at h1; exact absurd rfl h1
  · rw [if_neg c] at h
    by_cases d : x.1 ≤ skF x p
    · rw [if_pos d] at h; exact absurd rfl h
    · refine ⟨by omega, ?_, ?_, ?_⟩
      · unfold tkK; rw [if_neg c, if_neg d]
      · unfold tkP; rw [if_neg c]
      · unfold tkT; rw [if_neg c, if_neg d]
theorem tk_gt {x : TT} {p : Nat} (h : tkK x p ≠ 0) (h1 : tkK x p ≠ 1) : p + 1 ≤ tkT x p ∧ tkT x p ≤ x.1 := by
  obtain ⟨a, b, c, d⟩ := tk_kd h h1
  have h2 := (sk_ge (x := x) (x.1 - p) p (Nat.le_refl _)).1
  have h3 := nx_gt (x := x) (q := skF x p)
  have h4 := nx_le a
  omega
theorem tk_v2 {x : TT} {p : Nat} (h : tkK x p = 2) : tkV x p < 2 ^ 40 := by
  obtain ⟨a, b, c, d⟩ := tk_kd (x := x) (p := p) (by omega) (by omega)
  exact vl_lt (Or.inl (by omega))
theorem tk_v3 {x : TT} {p : Nat} (h : tkK x p = 3) : tkV x p < 100 := by
  obtain ⟨a, b, c, d⟩ := tk_kd (x := x) (p := p) (by omega) (by omega)
  have b : kdF x (skF x p) = 3 := by omega
  unfold kdF at b
  show vlF x (skF x p) < 100
  unfold vlF
  by_cases e : ann (x.B (skF x p)) = true
  · rw [if_pos e] at b
    by_cases f : alF x (skF x p) (rnF x (skF x p)) = true ∧ rnF x (skF x p) ≤ 7
    · rw [if_pos f] at b; cases b
    · rw [if_neg f] at b
      by_cases g : adF x (skF x p) (rnF x (skF x p)) = true ∧ rnF x (skF x p) ≤ 2
      · rw [if_neg (fun z => f ⟨z, by omega⟩)]
        have h1 := nv_lt _ g.1
        have h2 : 10 ^ rnF x (skF x p) ≤ 10 ^ 2 := Nat.pow_le_pow_right (by decide) g.2
        omega
      · rw [if_neg g] at b; cases b
  · rw [if_neg e] at b
    split at b <;> cases b
theorem tk_le {x : TT} {p : Nat} : tkK x p ≤ 4 := by
  unfold tkK
  split
  · omega
  · split
    · omega
    · exact kd_bd.2
theorem spP {σ : GM} : f_X12_spelt σ (112 : Int32) (111 : Int32) (105 : Int32) (110 : Int32) (116 : Int32) = some (lN WP) := by
  unfold f_X12_spelt
  rw [nm_v, if_neg (by decide)]
  rfl
theorem spL {σ : GM} : f_X12_spelt σ (108 : Int32) (105 : Int32) (110 : Int32) (101 : Int32) (0 : Int32) = some (lN WL) := by
  unfold f_X12_spelt
  rw [nm_v, if_pos (by decide)]
  rfl
theorem isPoint_at {σ : GM} {x : TT} {p : Nat} (h : tokR σ x p) : f_X12_isPointWord σ = some (nI (bI (decide (tkK x p = 2 ∧ tkV x p = WP)))) := by
  have hk := tk_le (x := x) (p := p)
  unfold f_X12_isPointWord
  rw [h.1, i2]
  by_cases c : tkK x p = 2
  · have hv := tk_v2 c
    have b1 := WP_b
    rw [eq_y c, spP, ob_s, h.2.2.1 c]
    by_cases d : tkV x p = WP
    · rw [lceq_y d, decide_eq_true ⟨c, d⟩]; rfl
    · rw [lceq_n d (by omega) b1, decide_eq_false (fun z => d z.2)]; rfl
  · rw [eq_n c (by omega) (by omega), decide_eq_false (fun z => c z.1)]; rfl
theorem isLine_at {σ : GM} {x : TT} {p : Nat} (h : tokR σ x p) : f_X12_isLineWord σ = some (nI (bI (decide (tkK x p = 2 ∧ tkV x p = WL)))) := by
  have hk := tk_le (x := x) (p := p)
  unfold f_X12_isLineWord
  rw [h.1, i2]
  by_cases c : tkK x p = 2
  · have hv := tk_v2 c
    have b1 := WL_b
    rw [eq_y c, spL, ob_s, h.2.2.1 c]
    by_cases d : tkV x p = WL
    · rw [lceq_y d, decide_eq_true ⟨c, d⟩]; rfl
    · rw [lceq_n d (by omega) b1, decide_eq_false (fun z => d z.2)]; rfl
  · rw [eq_n c (by omega) (by omega), decide_eq_false (fun z => c z.1)]; rfl
theorem isName_at {σ : GM} {x : TT} {p : Nat} (h : tokR σ x p) : f_X12_isName σ = some (nI (bI (isNm (tkK x p) (tkV x p)))) := by
  have hk := tk_le (x := x) (p := p)
  unfold f_X12_isName isNm
  rw [h.1, i2]
  by_cases c : tkK x p = 2
  · rw [eq_y c, isPoint_at h, ob_s]
    by_cases d : tkV x p = WP
    · rw [bz_n (decide_eq_true ⟨c, d⟩), decide_eq_false (fun z => z.2.1 d)]; rfl
    · rw [bz_y (decide_eq_false (fun z => d z.2)), isLine_at h, ob_s]
      by_cases e : tkV x p = WL
      · rw [bz_n (decide_eq_true ⟨c, e⟩), decide_eq_false (fun z => z.2.2 e)]; rfl
      · rw [bz_y (decide_eq_false (fun z => e z.2)), decide_eq_true ⟨c, d, e⟩]; rfl
  · rw [eq_n c (by omega) (by omega), decide_eq_false (fun z => c z.1)]; rfl
theorem bad_at {σ : GM} {x : TT} {p : Nat} (h : tokR σ x p) (c : Nat) : ∃ σ', f_X12_bad σ (nI c) = some (σ', nI (bI false)) ∧ σ'.1 60 8 = nI (if tkK x p = 1 then 1 else c) ∧ σ'.1 60 9 = nI (tkP x p) ∧ keepJ σ σ' := by
  have hk := tk_le (x := x) (p := p)
  have key : ∀ d : Nat, ∃ σ', f_X12_bad_L14 σ (nI d) = some (σ', nI (bI false)) ∧ σ'.1 60 8 = nI d ∧ σ'.1 60 9 = nI (tkP x p) ∧ keepJ σ σ' := by
    intro d
    refine ⟨wI (wI σ 60 8 (nI d)) 60 9 (nI (tkP x p)), ?_, by rw [wI_1, if_neg (by omega), wI_1, if_pos ⟨rfl, rfl⟩], by rw [wI_1, if_pos ⟨rfl, rfl⟩], (keepJ.w (by omega)).tr (keepJ.w (by omega))⟩
    have e : (wI σ 60 8 (nI d)).1 60 5 = nI (tkP x p) := by rw [wI_1, if_neg (by omega)]; exact h.2.1
    unfold f_X12_bad_L14
    rw [nm_v, e, nm_v]
    rfl
  unfold f_X12_bad
  rw [h.1, i1]
  by_cases e : tkK x p = 1
  · rw [eq_y e, if_pos e]; exact key 1
  · rw [eq_n e (by omega) (by omega), if_neg e]; exact key c
theorem named_at {σ : GM} {s : RS} {v : Nat} (hr : rwR σ s) (ht : s.N.told ≤ 12) (hm : mB s) (hv : v < 2 ^ 40) (h10 : σ.2 60 10 = lN v) : f_X12_named σ = some (nmI (nmd s v)) := by
  have h0 : σ.1 63 0 = nI s.N.told := hr.1.1
  have hb0 : ∀ y : Option Int32, bnd (0 : Int32) 159 y = y := fun y => by rw [i0, bnd_n (by omega) (by omega)]
  have hc0 : σ.1 63 (0 : Int32).toNatClampNeg = nI s.N.told := h0
  unfold f_X12_named
  refine lq5 s.N.told (by omega) (fun k (_ : Unit) i => f_X12_named_L2 σ k i) (fun q _ => ∀ i, i < q → s.m i ≠ v) (fun z => z = some (nmI (nmd s v))) () (fun i hi => absurd hi (by omega)) ?_ ?_
  · intro k q _ hq hI
    have hmq := hm q hq
    by_cases c : s.m q = v
    · refine Or.inr ?_
      have : nmd s v = some q := fi_s.mpr ⟨hq, decide_eq_true c, fun i hi => decide_eq_false (hI i hi)⟩
      rw [this]
      show f_X12_named_L2 σ (k + 1) (nI q) = some (nI q)
      unfold f_X12_named_L2
      rw [hb0, hc0, le_n hq (by omega), bnd_n (by omega) (by omega), nI_clamp (by omega), hr.2.1 q hq, h10, lceq_y c]
    · refine Or.inl ⟨(), fun i hi => ?_, fun z hz => ?_⟩
      · by_cases e : i = q
        · subst e; exact c
        · exact hI i (by omega)
      · show f_X12_named_L2 σ (k + 1) (nI q) = z
        unfold f_X12_named_L2
        rw [hb0, hc0, le_n hq (by omega), bnd_n (by omega) (by omega), nI_clamp (by omega), hr.2.1 q hq, h10, lceq_n c (by omega) (by omega), nm_v, i1, nI_add]
        exact hz
  · intro k _ hI
    have : nmd s v = none := fi_n.mpr (fun i hi => decide_eq_false (hI i hi))
    rw [this]
    show f_X12_named_L2 σ (k + 1) (nI s.N.told) = some (-1)
    unfold f_X12_named_L2
    rw [hb0, hc0, le_y (Nat.le_refl _) (by omega)]
/-- what a row comes to, ahead of its sign -/
def rowO (x : TT) (j p : Nat) (s : RS) (σ σ' : GM) (b : Bool) : Prop :=
  keepJ σ σ' ∧ ((b = false ∧ ∃ k q, runF x j p s = .inl (k, q) ∧ σ'.1 60 8 = nI k ∧ σ'.1 60 9 = nI q) ∨
    (b = true ∧ ∃ p' s' j', runF x j p s = runF x j' p' s' ∧ p' ≤ x.1 ∧ p + 1 ≤ p' ∧ 641 ≤ p' + j' ∧ rsI s' ∧ mB s' ∧ s'.r = s.r ∧ tkF s' (tkK x p') (tkV x p') = tk3 s' (tkK x p') ∧ tokR σ' x p' ∧ rwR σ' s'))
/-- a row that ends at a fault of the token behind p -/
theorem row_bad {x : TT} {j p j0 p0 c : Nat} {s s0 : RS} {σ0 σ : GM} (h : tokR σ x p) (hk : keepJ σ0 σ) (hrun : runF x j0 p0 s0 = runF x (j + 1) p s) (hf : tkF s (tkK x p) (tkV x p) = .inl (if tkK x p = 1 then 1 else c)) :
    ∃ σ', f_X12_bad σ (nI c) = some (σ', nI (bI false)) ∧ rowO x j0 p0 s0 σ0 σ' false := by
  obtain ⟨σ', b1, b2, b3, b4⟩ := bad_at h c
  refine ⟨σ', b1, hk.tr b4, Or.inl ⟨rfl, _, _, ?_, b2, b3⟩⟩
  rw [hrun, run_c hf]
