/-! THE MARKED SETS AND THE LEAST RINGS -/
def busy (B : Nat → Nat → Nat) (S : Nat) : Prop := S ≠ 0 ∧ ∀ x, S.testBit x = true → 2 ≤ dS B S x
theorem busy_nf {B : Nat → Nat → Nat} {S : Nat} (h : busy B S) : ¬ Free B S := by
  intro hf
  obtain ⟨p, h1, h2⟩ := hf S (fun _ q => q) h.1
  have := h.2 p h1
  omega
theorem busy_here {N : NT} (hw : wf N) {S : Nat} (h : busy N.bt S) : subS S N.here := by
  intro x hx
  have := h.2 x hx
  rcases ex_nb (B := N.bt) (S := S) (p := x) (by omega) with c | ⟨q, -, -, c⟩
  · exact (hw.2.2.2.2.2.1 x x c).1
  · exact (hw.2.2.2.2.2.1 x q c).1
theorem two_nb {B : Nat → Nat → Nat} {S p q r : Nat} (hS : S < 4096) (hq : S.testBit q = true) (hr : S.testBit r = true) (hne : q ≠ r) (h1 : B p q ≠ 0) (h2 : B p r ≠ 0) : 2 ≤ dS B S p := by
  have := dS_nb2 (B := B) (p := p) hS hq hr hne
  omega
/-- a way from s to p over the points of v -/
def Pth (B : Nat → Nat → Nat) (s p v : Nat) : Prop :=
  v < 4096 ∧ v.testBit s = true ∧ v.testBit p = true ∧ (∀ x, v.testBit x = true → x ≠ s → x ≠ p → 2 ≤ dS B v x) ∧ (p = s → v = 2 ^ s) ∧
  (p ≠ s → (∃ b, v.testBit b = true ∧ b ≠ p ∧ B p b ≠ 0) ∧ (∃ a, v.testBit a = true ∧ a ≠ s ∧ B s a ≠ 0)) ∧
  (2 < pc v 12 → (∃ b, v.testBit b = true ∧ b ≠ p ∧ b ≠ s ∧ B p b ≠ 0) ∧ (∃ a, v.testBit a = true ∧ a ≠ s ∧ a ≠ p ∧ B s a ≠ 0))
theorem Pth_step {B : Nat → Nat → Nat} (hy : symB B) {s p v j : Nat} (hs : s < 12) (hj : j < 12) (h : Pth B s p v) (hv : v.testBit j = false) (hB : B p j ≠ 0) : Pth B s j (v ||| 2 ^ j) := by
  obtain ⟨h1, h2, h3, h4, h5, h6, h7⟩ := h
  have hv' : v ||| 2 ^ j < 4096 := or_lt (n := 12) h1 (p2_lt hj)
  have hin : ∀ x, v.testBit x = true → (v ||| 2 ^ j).testBit x = true := fun x hx => tb_or.mpr (Or.inl hx)
  have hjj : (v ||| 2 ^ j).testBit j = true := tb_or.mpr (Or.inr (tb_two.mpr rfl))
  have hsj : s ≠ j := by rintro rfl; rw [hv] at h2; cases h2
  have hpj : p ≠ j := by rintro rfl; rw [hv] at h3; cases h3
  have hne : ∀ x, v.testBit x = true → x ≠ j := by rintro x hx rfl; rw [hv] at hx; cases hx
  refine ⟨hv', hin s h2, hjj, ?_, fun e => absurd e.symm hsj, ?_, ?_⟩
  · intro x hx hxs hxj
    have hxv : v.testBit x = true := by
      rcases tb_or.mp hx with c | c
      · exact c
      · exact absurd (tb_two.mp c).symm hxj
    by_cases e : x = p
    · subst e
      obtain ⟨⟨b, b1, b2, b3⟩, -⟩ := h6 hxs
      exact two_nb hv' (hin b b1) hjj (hne b b1) b3 hB
    · exact Nat.le_trans (h4 x hxv hxs e) (dS_mono hin)
  · intro _
    refine ⟨⟨p, hin p h3, hpj, by rw [hy j p]; exact hB⟩, ?_⟩
    by_cases e : p = s
    · subst e
      exact ⟨j, hjj, fun q => hsj q.symm, hB⟩
    · obtain ⟨-, a, a1, a2, a3⟩ := h6 e
      exact ⟨a, hin a a1, a2, a3⟩
  · intro hpc
    by_cases e : p = s
    · exfalso
      rw [pc_put hj hv, h5 e, pc_one hs] at hpc
      omega
    · obtain ⟨-, a, a1, a2, a3⟩ := h6 e
      exact ⟨⟨p, hin p h3, hpj, e, by rw [hy j p]; exact hB⟩, a, hin a a1, a2, hne a a1, a3⟩
theorem MK_busy {B : Nat → Nat → Nat} (hy : symB B) : ∀ (d s p v S : Nat), s < 12 → Pth B s p v → MK B d s p v S → busy B S ∧ S < 4096 := by
  intro d
  induction d with
  | zero => intro s p v S _ _ h; exact h.elim
  | succ d ih =>
    intro s p v S hs hP h
    rcases h with ⟨a, b, rfl⟩ | ⟨j, a, b, c, e, f⟩
    · obtain ⟨h1, h2, h3, h4, h5, h6, h7⟩ := hP
      obtain ⟨⟨x, x1, x2, x3, x4⟩, y, y1, y2, y3, y4⟩ := h7 b
      have hps : p ≠ s := by
        intro q
        rw [h5 q, pc_one hs] at b
        omega
      refine ⟨⟨?_, ?_⟩, h1⟩
      · rintro rfl; rw [Nat.zero_testBit] at h2; cases h2
      · intro z hz
        by_cases c1 : z = s
        · subst c1
          exact two_nb h1 y1 h3 y3 y4 (by rw [hy z p]; exact a)
        · by_cases c2 : z = p
          · subst c2
            exact two_nb h1 x1 h2 x3 x4 a
          · exact h4 z hz c1 c2
    · exact ih s j (v ||| 2 ^ j) S hs (Pth_step hy hs b hP e c) f
theorem isR_busy {B : Nat → Nat → Nat} (hy : symB B) {S : Nat} (h : isR B S) : busy B S ∧ S < 4096 := by
  rcases h with ⟨v, hv, h⟩ | ⟨v, hv, h, rfl⟩ | ⟨v, j, hvj, hj, h, rfl⟩
  · refine MK_busy hy 14 v v (2 ^ v) S hv ⟨p2_lt hv, tb_two.mpr rfl, tb_two.mpr rfl, fun x hx hne _ => absurd (tb_two.mp hx).symm hne, fun _ => rfl, fun q => absurd rfl q, fun q => ?_⟩ h
    rw [pc_one hv] at q
    omega
  · refine ⟨⟨Nat.ne_of_gt (Nat.two_pow_pos v), fun x hx => ?_⟩, p2_lt hv⟩
    have e := tb_two.mp hx
    subst e
    have := (dS_nb (B := B) (p := v) (p2_lt hv) hx).2 rfl
    omega
  · have hl : 2 ^ v ||| 2 ^ j < 4096 := or_lt (n := 12) (p2_lt (by omega)) (p2_lt hj)
    have h1 : (2 ^ v ||| 2 ^ j).testBit v = true := tb_or.mpr (Or.inl (tb_two.mpr rfl))
    have h2 : (2 ^ v ||| 2 ^ j).testBit j = true := tb_or.mpr (Or.inr (tb_two.mpr rfl))
    refine ⟨⟨?_, fun x hx => ?_⟩, hl⟩
    · intro e; rw [e, Nat.zero_testBit] at h1; cases h1
    · rcases tb_or.mp hx with c | c
      · have e := tb_two.mp c
        subst e
        have := (dS_nb (B := B) (p := v) hl h2).1
        omega
      · have e := tb_two.mp c
        subst e
        have := (dS_nb (B := B) (p := j) hl h1).1
        rw [hy j v] at this
        omega
theorem isM_eq {B : Nat → Nat → Nat} {h S T : Nat} (hh : h < 4096) (hS : isM B h S) (hT : subS T S) (hn : ¬ Free B T) : T = S := by
  apply Nat.eq_of_testBit_eq
  intro i
  cases e : S.testBit i with
  | false =>
    cases f : T.testBit i with
    | false => rfl
    | true => have := hT i f; rw [e] at this; cases this
  | true =>
    cases f : T.testBit i with
    | true => rfl
    | false =>
      exfalso
      refine hn (Free_sub (fun j hj => (tb_dif1 (subS_lt hS.1 hh)).mpr ⟨hT j hj, ?_⟩) (hS.2.2 i e))
      rintro rfl
      rw [f] at hj; cases hj
theorem isM_deg {B : Nat → Nat → Nat} {h S : Nat} (hh : h < 4096) (hS : isM B h S) {p : Nat} (hp : S.testBit p = true) : 2 ≤ dS B S p := by
  rcases Nat.lt_or_ge (dS B S p) 2 with c | c
  · exact absurd ((Free_tip (subS_lt hS.1 hh) (by omega)).mpr (hS.2.2 p hp)) hS.2.1
  · exact c
def PT (B : Nat → Nat → Nat) (S s n : Nat) (p : Nat → Nat) : Prop := p 0 = s ∧ (∀ k, k ≤ n → S.testBit (p k) = true) ∧ (∀ k l, k ≤ n → l ≤ n → p k = p l → k = l) ∧ (∀ k, k < n → B (p k) (p (k + 1)) ≠ 0)
noncomputable def seg (p : Nat → Nat) (i n : Nat) : Nat := st (fun x => @decide (∃ k, i ≤ k ∧ k ≤ n ∧ p k = x) (Classical.propDecidable _)) 12
theorem seg_t {B : Nat → Nat → Nat} {S s n : Nat} {p : Nat → Nat} (hS : S < 4096) (h : PT B S s n p) {i x : Nat} : (seg p i n).testBit x = true ↔ ∃ k, i ≤ k ∧ k ≤ n ∧ p k = x := by
  unfold seg
  rw [tb_st, Bool.and_eq_true, @decide_eq_true_iff _ (Classical.propDecidable _), decide_eq_true_iff]
  constructor
  · exact fun q => q.2
  · intro q
    obtain ⟨k, a, b, c⟩ := q
    refine ⟨?_, k, a, b, c⟩
    rw [← c]; exact tb_lt (n := 12) (h.2.1 k b) hS
theorem walk_ring {B : Nat → Nat → Nat} (hy : symB B) {h S : Nat} (hh : h < 4096) (hM : isM B h S) (hl : ∀ x, S.testBit x = true → B x x = 0) (h1 : ∀ x y, S.testBit x = true → S.testBit y = true → B x y ≤ 1) :
    ∀ (d n : Nat) (p : Nat → Nat) (v : Nat), PT B S (lo S) n p → (∀ x, v.testBit x = true ↔ ∃ k, k ≤ n ∧ p k = x) → 13 ≤ pc v 12 + d → MK B d (lo S) (p n) v S := by
  have hS4 := subS_lt hM.1 hh
  obtain ⟨m1, m2, m3⟩ := lo_all S hS4 (isM_0 hM)
  intro d
  induction d with
  | zero => intro n p v _ _ h; have := pc_le v 12; omega
  | succ d ih =>
    intro n p v hP hv hpc
    have hPn := hP.2.1 n (Nat.le_refl n)
    have hvS : subS v S := fun x hx => by obtain ⟨k, a, b⟩ := (hv x).mp hx; rw [← b]; exact hP.2.1 k a
    by_cases c : ∃ j, S.testBit j = true ∧ v.testBit j = false ∧ B (p n) j ≠ 0
    · obtain ⟨j, j1, j2, j3⟩ := c
      have hj12 := tb_lt (n := 12) j1 hS4
      right
      refine ⟨j, ?_, hj12, j3, j2, ?_⟩
      · rcases Nat.lt_trichotomy (lo S) j with q | q | q
        · exact q
        · have : v.testBit j = true := (hv j).mpr ⟨0, by omega, by rw [hP.1]; exact q⟩
          rw [j2] at this; cases this
        · rw [m3 j q] at j1; cases j1
      · have hnew : ∀ k, k ≤ n → p k ≠ j := by
          intro k hk e
          have : v.testBit j = true := (hv j).mpr ⟨k, hk, e⟩
          rw [j2] at this; cases this
        obtain ⟨g, g1, g2⟩ : ∃ g : Nat → Nat, g (n + 1) = j ∧ ∀ k, k ≠ n + 1 → g k = p k := ⟨fun k => if k = n + 1 then j else p k, if_pos rfl, fun k hk => if_neg hk⟩
        have := ih (n + 1) g (v ||| 2 ^ j) ⟨by rw [g2 0 (by omega)]; exact hP.1, ?_, ?_, ?_⟩ ?_ (by rw [pc_put hj12 j2]; omega)
        · rw [g1] at this; exact this
        · intro k hk
          by_cases e : k = n + 1
          · rw [e, g1]; exact j1
          · rw [g2 k e]; exact hP.2.1 k (by omega)
        · intro k l hk hl2 e
          by_cases a : k = n + 1
          · by_cases b : l = n + 1
            · omega
            · rw [a, g1, g2 l b] at e; exact absurd e.symm (hnew l (by omega))
          · by_cases b : l = n + 1
            · rw [b, g1, g2 k a] at e; exact absurd e (hnew k (by omega))
            · rw [g2 k a, g2 l b] at e; exact hP.2.2.1 k l (by omega) (by omega) e
        · intro k hk
          by_cases a : k = n
          · rw [a, g1, g2 n (by omega)]; exact j3
          · rw [g2 k (by omega), g2 (k + 1) (by omega)]; exact hP.2.2.2 k (by omega)
        · intro x
          rw [tb_or, tb_two, hv x]
          constructor
          · rintro (⟨k, a, b⟩ | a)
            · exact ⟨k, by omega, by rw [g2 k (by omega)]; exact b⟩
            · exact ⟨n + 1, Nat.le_refl _, by rw [g1]; exact a⟩
          · rintro ⟨k, a, b⟩
            by_cases e : k = n + 1
            · rw [e, g1] at b; exact Or.inr b
            · rw [g2 k e] at b; exact Or.inl ⟨k, by omega, b⟩
    · have hnb : ∀ j, S.testBit j = true → B (p n) j ≠ 0 → ∃ k, k < n ∧ p k = j := by
        intro j a b
        have : v.testBit j = true := by
          cases e : v.testBit j with
          | true => rfl
          | false => exact absurd ⟨j, a, e, b⟩ c
        obtain ⟨k, k1, k2⟩ := (hv j).mp this
        refine ⟨k, ?_, k2⟩
        rcases Nat.lt_or_ge k n with q | q
        · exact q
        · rw [show k = n by omega] at k2
          rw [← k2] at b
          exact absurd (hl _ hPn) b
      have hdeg := isM_deg hh hM hPn
      have hex : ∃ i j, i < j ∧ j < n ∧ B (p n) (p i) ≠ 0 ∧ B (p n) (p j) ≠ 0 := by
        rcases ex_nb (B := B) (S := S) (p := p n) (by omega) with e | ⟨x, x0, x1, x2⟩
        · exact absurd (hl _ hPn) e
        · have hx1 := h1 _ _ hPn x1
          have : ∃ y, S.testBit y = true ∧ y ≠ x ∧ B (p n) y ≠ 0 := by
            refine Classical.byContradiction (fun hno => ?_)
            have hz : dS B S (p n) = B (p n) x := by
              unfold dS
              rw [hl _ hPn, sm_one (k := x) 12 x0 (fun i hi hne => by
                cases f : S.testBit i with
                | false => simp [bI]
                | true =>
                  by_cases g : B (p n) i = 0
                  · rw [g]; rfl
                  · exact absurd ⟨i, f, hne, g⟩ hno), x1]
              simp [bI]
            omega
          obtain ⟨y, y1, y2, y3⟩ := this
          obtain ⟨i, i1, i2⟩ := hnb x x1 x2
          obtain ⟨j, j1, j2⟩ := hnb y y1 y3
          rcases Nat.lt_trichotomy i j with q | q | q
          · exact ⟨i, j, q, j1, by rw [i2]; exact x2, by rw [j2]; exact y3⟩
          · exact absurd (by rw [← j2, ← i2, q]) y2
          · exact ⟨j, i, q, i1, by rw [j2]; exact y3, by rw [i2]; exact x2⟩
      obtain ⟨i, j, e1, e2, e3, e4⟩ := hex
      have ht := fun x => seg_t (B := B) hS4 hP (i := i) (x := x)
      have hTS : subS (seg p i n) S := fun x hx => by obtain ⟨k, a, b, c⟩ := (ht x).mp hx; rw [← c]; exact hP.2.1 k b
      have hT4 := subS_lt hTS hS4
      have hin : ∀ k, i ≤ k → k ≤ n → (seg p i n).testBit (p k) = true := fun k a b => (ht _).mpr ⟨k, a, b, rfl⟩
      have hinj : ∀ k l, k ≤ n → l ≤ n → k ≠ l → p k ≠ p l := fun k l a b c d => c (hP.2.2.1 k l a b d)
      have hbz : busy B (seg p i n) := by
        refine ⟨?_, fun x hx => ?_⟩
        · intro q
          have := hin n (by omega) (by omega)
          rw [q, Nat.zero_testBit] at this; cases this
        · obtain ⟨k, a, b, rfl⟩ := (ht x).mp hx
          by_cases f : k = n
          · rw [f]
            exact two_nb hT4 (hin i (by omega) (by omega)) (hin j (by omega) (by omega)) (hinj i j (by omega) (by omega) (by omega)) e3 e4
          · by_cases g : k = i
            · rw [g]
              exact two_nb hT4 (hin (i + 1) (by omega) (by omega)) (hin n (by omega) (by omega)) (hinj (i + 1) n (by omega) (by omega) (by omega)) (hP.2.2.2 i (by omega)) (by rw [hy]; exact e3)
            · have hpr := hP.2.2.2 (k - 1) (by omega)
              rw [show k - 1 + 1 = k by omega] at hpr
              exact two_nb hT4 (hin (k - 1) (by omega) (by omega)) (hin (k + 1) (by omega) (by omega)) (hinj (k - 1) (k + 1) (by omega) (by omega) (by omega)) (by rw [hy]; exact hpr) (hP.2.2.2 k (by omega))
      have hTe := isM_eq hh hM hTS (busy_nf hbz)
      have hi0 : i = 0 := by
        have h0 : (seg p i n).testBit (p 0) = true := by rw [hTe]; exact hP.2.1 0 (by omega)
        obtain ⟨k, a, b, c⟩ := (ht _).mp h0
        have := hP.2.2.1 k 0 b (by omega) c
        omega
      subst hi0
      have hvT : v = S := by
        apply Nat.eq_of_testBit_eq
        intro x
        apply Bool.eq_iff_iff.mpr
        constructor
        · exact hvS x
        · intro hx
          rw [← hTe] at hx
          obtain ⟨k, a, b, c⟩ := (ht x).mp hx
          exact (hv x).mpr ⟨k, b, c⟩
      left
      refine ⟨by rw [← hP.1]; exact e3, ?_, hvT.symm⟩
      have q0 := tb_lt (n := 12) (hP.2.1 0 (by omega)) hS4
      have qj := tb_lt (n := 12) (hP.2.1 j (by omega)) hS4
      have qn := tb_lt (n := 12) hPn hS4
      have n1 := hinj 0 j (by omega) (by omega) (by omega)
      have n2 := hinj 0 n (by omega) (by omega) (by omega)
      have n3 := hinj j n (by omega) (by omega) (by omega)
      have b1 : (2 ^ p 0).testBit (p j) = false := by rw [tb_bit]; exact decide_eq_false n1
      have b2 : (2 ^ p 0 ||| 2 ^ p j).testBit (p n) = false := by rw [Nat.testBit_or, tb_bit, tb_bit, decide_eq_false n2, decide_eq_false n3]; rfl
      have hp3 : pc (2 ^ p 0 ||| 2 ^ p j ||| 2 ^ p n) 12 = 3 := by rw [pc_put qn b2, pc_put qj b1, pc_one q0]
      have := pc_sub (a := 2 ^ p 0 ||| 2 ^ p j ||| 2 ^ p n) (b := v) (fun x hx => by
        rw [tb_or, tb_or, tb_two, tb_two, tb_two] at hx
        rcases hx with (hx | hx) | hx
        · exact (hv x).mpr ⟨0, by omega, hx⟩
        · exact (hv x).mpr ⟨j, by omega, hx⟩
        · exact (hv x).mpr ⟨n, by omega, hx⟩)
      omega
theorem isM_isR {B : Nat → Nat → Nat} (hy : symB B) {h S : Nat} (hh : h < 4096) (hM : isM B h S) : isR B S := by
  have hS4 := subS_lt hM.1 hh
  obtain ⟨m1, m2, m3⟩ := lo_all S hS4 (isM_0 hM)
  by_cases hl : ∃ x, S.testBit x = true ∧ B x x ≠ 0
  · obtain ⟨x, x1, x2⟩ := hl
    have hx := tb_lt (n := 12) x1 hS4
    have hR : isR B (2 ^ x) := Or.inr (Or.inl ⟨x, hx, x2, rfl⟩)
    rw [← isM_eq hh hM (T := 2 ^ x) (fun i hi => by rw [← tb_two.mp hi]; exact x1) (busy_nf (isR_busy hy hR).1)]
    exact hR
  · have hl : ∀ x, S.testBit x = true → B x x = 0 := fun x hx => Classical.byContradiction (fun q => hl ⟨x, hx, q⟩)
    by_cases h2 : ∃ x y, S.testBit x = true ∧ S.testBit y = true ∧ 2 ≤ B x y
    · obtain ⟨x, y, x1, y1, h2⟩ := h2
      have hx := tb_lt (n := 12) x1 hS4
      have hyy := tb_lt (n := 12) y1 hS4
      have hne : x ≠ y := by rintro rfl; rw [hl x x1] at h2; omega
      have main : ∀ x y, x < y → y < 12 → S.testBit x = true → S.testBit y = true → 2 ≤ B x y → isR B S := by
        intro x y hxy hy12 x1 y1 h2
        have hR : isR B (2 ^ x ||| 2 ^ y) := Or.inr (Or.inr ⟨x, y, hxy, hy12, h2, rfl⟩)
        rw [← isM_eq hh hM (T := 2 ^ x ||| 2 ^ y) (fun i hi => by
          rcases tb_or.mp hi with c | c
          · rw [← tb_two.mp c]; exact x1
          · rw [← tb_two.mp c]; exact y1) (busy_nf (isR_busy hy hR).1)]
        exact hR
      rcases Nat.lt_or_ge x y with c | c
      · exact main x y c hyy x1 y1 h2
      · exact main y x (by omega) hx y1 x1 (by rw [hy]; exact h2)
    · have h1 : ∀ x y, S.testBit x = true → S.testBit y = true → B x y ≤ 1 := fun x y hx hy2 => by
        rcases Nat.lt_or_ge (B x y) 2 with c | c
        · omega
        · exact absurd ⟨x, y, hx, hy2, c⟩ h2
      left
      refine ⟨lo S, m1, walk_ring hy hh hM hl h1 14 0 (fun _ => lo S) (2 ^ lo S) ⟨rfl, fun k _ => m2, fun k l hk hl2 _ => by omega, fun k hk => absurd hk (by omega)⟩ (fun x => ?_) (by rw [pc_one m1]; omega)⟩
      rw [tb_two]
      exact ⟨fun e => ⟨0, Nat.le_refl 0, e⟩, fun ⟨_, _, e⟩ => e⟩
