/-! LOOPS: one shape for all that count from nought up -/
theorem lq {α γ : Type} (n : Nat) (F : Nat → α → Int32 → γ) (P : Nat → α → Prop) (Q : γ → Prop)
    (hstep : ∀ k q a, q < n → P q a → (∃ a', P (q + 1) a' ∧ ∀ r, F k a' (nI (q + 1)) = r → F (k + 1) a (nI q) = r) ∨ Q (F (k + 1) a (nI q)))
    (hend : ∀ k a, P n a → Q (F (k + 1) a (nI n))) : ∀ k q a, q ≤ n → n < q + k → P q a → Q (F k a (nI q)) := by
  intro k
  induction k with
  | zero => intro q a h1 h2; omega
  | succ k ih =>
    intro q a h1 h2 hp
    by_cases e : q = n
    · subst e; exact hend k a hp
    · rcases hstep k q a (by omega) hp with ⟨a', h3, h4⟩ | h3
      · rw [h4 _ rfl]; exact ih (q + 1) a' (by omega) (by omega) h3
      · exact h3
theorem lq5 {α γ : Type} (n : Nat) (hn : n < 5000) (F : Nat → α → Int32 → γ) (P : Nat → α → Prop) (Q : γ → Prop) (a : α) (h0 : P 0 a)
    (hstep : ∀ k q a, q < n → P q a → (∃ a', P (q + 1) a' ∧ ∀ r, F k a' (nI (q + 1)) = r → F (k + 1) a (nI q) = r) ∨ Q (F (k + 1) a (nI q)))
    (hend : ∀ k a, P n a → Q (F (k + 1) a (nI n))) : Q (F 5000 a (0 : Int32)) := lq n F P Q hstep hend 5000 0 a (Nat.zero_le n) (by omega) h0
theorem st_y {c : Nat → Bool} {q : Nat} (h : c q = true) : st c (q + 1) = st c q ||| 2 ^ q := by rw [st, h]; rfl
theorem st_n {c : Nat → Bool} {q : Nat} (h : c q = false) : st c (q + 1) = st c q := by rw [st, h]; simp
theorem nI_set {a q : Nat} (h : q < 12) : nI a ||| ((1 : Int32) <<< (nI q &&& 31)) = nI (a ||| 2 ^ q) := by rw [nI_bit h, nI_lor]
theorem sm_y {f : Nat → Nat} {s q : Nat} (h : s.testBit q = true) : sm (fun i => bI (s.testBit i) * f i) (q + 1) = sm (fun i => bI (s.testBit i) * f i) q + f q := by rw [sm, h]; simp [bI]
theorem sm_n {f : Nat → Nat} {s q : Nat} (h : s.testBit q = false) : sm (fun i => bI (s.testBit i) * f i) (q + 1) = sm (fun i => bI (s.testBit i) * f i) q := by rw [sm, h]; simp [bI]
/-- ends at p within s -/
def dS (B : Nat → Nat → Nat) (s p : Nat) : Nat := B p p + sm (fun j => bI (s.testBit j) * B p j) 12
/-- lines within s, twice -/
def eS (B : Nat → Nat → Nat) (s : Nat) : Nat := sm (fun i => bI (s.testBit i) * dS B s i) 12
/-- weight of s -/
def wS (w : Nat → Nat) (s : Nat) : Nat := sm (fun i => bI (s.testBit i) * w i) 12
/-- points beside p by m lines at least -/
def bsB (B : Nat → Nat → Nat) (p m : Nat) : Nat := st (fun j => decide (j ≠ p ∧ m ≤ B p j)) 12
theorem bI_le (b : Bool) (x : Nat) : bI b * x ≤ x := by cases b <;> simp [bI]
theorem dS_le {B : Nat → Nat → Nat} (hb : ∀ i j, B i j ≤ 20) (s p : Nat) : dS B s p ≤ 260 := by
  have h1 := hb p p
  have h2 := sm_le (f := fun j => bI (s.testBit j) * B p j) (c := 20) 12 (fun i _ => Nat.le_trans (bI_le _ _) (hb p i))
  unfold dS; omega
theorem dS_dg {B : Nat → Nat → Nat} (s p : Nat) : dS B s p ≤ dgB B p := Nat.add_le_add_left (sm_mono _ (fun i _ => bI_le _ _)) _
theorem endsIn_at {σ : GM} {n : Nat} {B : Nat → Nat → Nat} (hB : ptB σ n B) (hb : ∀ i j, B i j ≤ 20) {p s : Nat} (hp : p < 12) (hs : s < 4096) : f_X3_endsIn σ n (nI p) (nI s) = some (nI (dS B s p)) := by
  unfold f_X3_endsIn
  rw [linesOf_at hB hp hp, ob_s]
  have h2 := endsIn_L hB hb hp hs (B p p) (hb p p) 5000 0 (by omega) (by omega)
  rw [show sm (fun j => bI (s.testBit j) * B p j) 0 = 0 from rfl, Nat.add_zero] at h2
  exact h2
theorem eS_le {B : Nat → Nat → Nat} (hb : ∀ i j, B i j ≤ 20) (s : Nat) : eS B s ≤ 3120 := sm_le (c := 260) 12 (fun i _ => Nat.le_trans (bI_le _ _) (dS_le hb s i))
theorem nI_half {a : Nat} (h : a < 2 ^ 31) : nI a / 2 = nI (a / 2) := by rw [i2]; exact pk_div h (by omega) (by omega)
theorem linesIn_at {σ : GM} {n : Nat} {B : Nat → Nat → Nat} (hB : ptB σ n B) (hb : ∀ i j, B i j ≤ 20) {s : Nat} (hs : s < 4096) : f_X3_linesIn σ n (nI s) = some (nI (eS B s / 2)) := by
  refine lq5 12 (by omega) (fun k a i => f_X3_linesIn_L4 σ n (nI s) k a i) (fun q a => a = nI (sm (fun i => bI (s.testBit i) * dS B s i) q)) (fun r => r = some (nI (eS B s / 2))) (nI 0) rfl ?_ ?_
  · intro k q a hq ha
    subst ha
    refine Or.inl ⟨_, rfl, fun r hr => ?_⟩
    unfold f_X3_linesIn_L4
    simp only [i12, le_n (show q < 12 from hq) (by omega), holds_at hs hq, ob_s]
    cases ht : s.testBit q with
    | false =>
      rw [sm_n ht] at hr
      rw [bz_y rfl, nm_v, i1, nI_add]
      exact hr
    | true =>
      rw [sm_y ht] at hr
      rw [bz_n rfl, endsIn_at hB hb hq hs, ob_s, nm_v, nm_v, i1, nI_add, nI_add]
      exact hr
  · intro k a ha
    subst ha
    unfold f_X3_linesIn_L4
    simp only [i12, le_y (Nat.le_refl 12) (by omega)]
    rw [i2, nz_n (by omega) (by omega), ← i2, nI_half (by have := eS_le hb s; unfold eS at this; omega)]
    rfl
theorem besides_at {σ : GM} {n : Nat} {B : Nat → Nat → Nat} (hB : ptB σ n B) (hb : ∀ i j, B i j ≤ 20) {p m : Nat} (hp : p < 12) (hm : m ≤ 20) : f_X3_besides σ n (nI p) (nI m) = some (nI (bsB B p m)) := by
  refine lq5 12 (by omega) (fun k a i => f_X3_besides_L5 σ n (nI p) (nI m) k a i) (fun q a => a = nI (st (fun j => decide (j ≠ p ∧ m ≤ B p j)) q)) (fun r => r = some (nI (bsB B p m))) (nI 0) rfl ?_ ?_
  · intro k q a hq ha
    subst ha
    refine Or.inl ⟨_, rfl, fun r hr => ?_⟩
    have hbq := hb p q
    unfold f_X3_besides_L5
    rw [i12, le_n hq (by omega)]
    by_cases e : q = p
    · rw [st_n (decide_eq_false (by omega))] at hr
      rw [eq_y e, nm_v, i1, nI_add]
      exact hr
    · rw [eq_n e (by omega) (by omega), linesOf_at hB hp hq, ob_s]
      by_cases d : B p q < m
      · rw [st_n (decide_eq_false (by omega))] at hr
        rw [lt_y d (by omega), nm_v, i1, nI_add]
        exact hr
      · rw [st_y (decide_eq_true (by omega))] at hr
        rw [lt_n (by omega) (by omega), nm_v, nm_v, nI_set hq, i1, nI_add]
        exact hr
  · intro k a ha
    subst ha
    unfold f_X3_besides_L5
    simp only [i12, le_y (Nat.le_refl 12) (by omega)]
    rfl
theorem weightOf_at {σ : GM} {n p : Nat} (hp : p < 12) : f_X3_weightOf σ n (nI p) = some (σ.1 (n + 1) p) := by
  unfold f_X3_weightOf
  simp (discharger := omega) only [i0, i12, lt_n, le_n, bnd_n, nI_clamp]
theorem weightOfSet_at {σ : GM} {n : Nat} {N : NT} (h : netAt σ n N) (hw : wf N) {s : Nat} (hs : s &&& N.here = s) : f_X3_weightOfSet σ n (nI s) = some (nI (wS N.wt s)) := by
  have hs4 : s < 4096 := by rw [← hs]; exact Nat.lt_of_le_of_lt Nat.and_le_right hw.h4096
  have hsub : ∀ i, s.testBit i = true → N.here.testBit i = true := by
    intro i hi
    rw [← hs, Nat.testBit_and, Bool.and_eq_true] at hi
    exact hi.2
  refine lq5 12 (by omega) (fun k a i => f_X3_weightOfSet_L4 σ n (nI s) k a i) (fun q a => a = nI (sm (fun i => bI (s.testBit i) * N.wt i) q)) (fun r => r = some (nI (wS N.wt s))) (nI 0) rfl ?_ ?_
  · intro k q a hq ha
    subst ha
    refine Or.inl ⟨_, rfl, fun r hr => ?_⟩
    unfold f_X3_weightOfSet_L4
    simp only [i12, le_n (show q < 12 from hq) (by omega), holds_at hs4 hq, ob_s]
    cases ht : s.testBit q with
    | false =>
      rw [sm_n ht] at hr
      rw [bz_y rfl, nm_v, i1, nI_add]
      exact hr
    | true =>
      rw [sm_y ht] at hr
      rw [bz_n rfl, weightOf_at hq, h.2.2.2.2.1 q (here_told hw (hsub q ht)), ob_s, nm_v, nm_v, i1, nI_add, nI_add]
      exact hr
  · intro k a ha
    subst ha
    unfold f_X3_weightOfSet_L4
    simp only [i12, le_y (Nat.le_refl 12) (by omega)]
    rfl
theorem sub_dif {a b : Nat} (ha : a < 2 ^ 32) : dif a b = 0 ↔ ∀ i, a.testBit i = true → b.testBit i = true := by
  constructor
  · intro h i hi
    have := tb_dif (b := b) (i := i) ha
    rw [h, hi] at this
    simpa using this
  · intro h
    apply Nat.eq_of_testBit_eq
    intro i
    rw [tb_dif ha, Nat.zero_testBit]
    cases e : a.testBit i with
    | false => rfl
    | true => rw [h i e]; rfl
theorem sub_and {a b : Nat} : a &&& b = a ↔ ∀ i, a.testBit i = true → b.testBit i = true := by
  constructor
  · intro h i hi
    rw [← h, Nat.testBit_and, Bool.and_eq_true] at hi
    exact hi.2
  · intro h
    apply Nat.eq_of_testBit_eq
    intro i
    rw [Nat.testBit_and]
    cases e : a.testBit i with
    | false => rfl
    | true => rw [h i e]; rfl
