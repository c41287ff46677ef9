/-! THE TEXT: tokens and rows, on numbers alone -/
def ltr (c : Nat) : Bool := decide (97 ≤ c ∧ c ≤ 122)
def dgt (c : Nat) : Bool := decide (48 ≤ c ∧ c ≤ 57)
def ann (c : Nat) : Bool := ltr c || dgt c
def blk (c : Nat) : Bool := decide (c = 32 ∨ c = 10)
/-- a tape: how many bytes, which -/
abbrev TT : Type := Nat × (Nat → Nat)
def TT.B (x : TT) (i : Nat) : Nat := if i < x.1 then x.2 i else 0
theorem TT.B_y {x : TT} {i : Nat} (h : i < x.1) : x.B i = x.2 i := if_pos h
theorem TT.B_n {x : TT} {i : Nat} (h : x.1 ≤ i) : x.B i = 0 := if_neg (by omega)
def skp (x : TT) : Nat → Nat → Nat
  | 0, p => p
  | k + 1, p => if blk (x.B p) = true then skp x k (p + 1) else p
def skF (x : TT) (p : Nat) : Nat := skp x (x.1 - p) p
theorem sk_b {x : TT} {p : Nat} (h : p < x.1) (hb : blk (x.B p) = true) : skF x p = skF x (p + 1) := by
  unfold skF
  rw [show x.1 - p = (x.1 - (p + 1)) + 1 by omega, skp, if_pos hb]
theorem sk_n {x : TT} {p : Nat} (hb : p < x.1 → blk (x.B p) = false) : skF x p = p := by
  unfold skF
  by_cases h : p < x.1
  · rw [show x.1 - p = (x.1 - (p + 1)) + 1 by omega, skp, if_neg (by rw [hb h]; decide)]
  · rw [show x.1 - p = 0 by omega]; rfl
theorem sk_ge {x : TT} : ∀ (n p : Nat), x.1 - p ≤ n → p ≤ skF x p ∧ (p ≤ x.1 → skF x p ≤ x.1) := by
  intro n
  induction n with
  | zero =>
    intro p h
    rw [sk_n (fun z => by omega)]
    exact ⟨Nat.le_refl _, fun h => h⟩
  | succ n ih =>
    intro p h
    by_cases c : p < x.1 ∧ blk (x.B p) = true
    · rw [sk_b c.1 c.2]
      have := ih (p + 1) (by omega)
      exact ⟨by omega, fun _ => this.2 (by omega)⟩
    · rw [sk_n (fun z => by
        cases e : blk (x.B p) with
        | false => rfl
        | true => exact absurd ⟨z, e⟩ c)]
      exact ⟨Nat.le_refl _, fun h => h⟩
def rnp (x : TT) : Nat → Nat → Nat
  | 0, _ => 0
  | k + 1, p => if ann (x.B p) = true then rnp x k (p + 1) + 1 else 0
/-- how many letters and digits from p on -/
def rnF (x : TT) (p : Nat) : Nat := rnp x (x.1 - p) p
theorem ann_0 : ann 0 = false := by decide
theorem rn_y {x : TT} {p : Nat} (hb : ann (x.B p) = true) : rnF x p = rnF x (p + 1) + 1 := by
  have h : p < x.1 := by
    rcases Nat.lt_or_ge p x.1 with c | c
    · exact c
    · rw [TT.B_n c, ann_0] at hb; cases hb
  unfold rnF
  rw [show x.1 - p = (x.1 - (p + 1)) + 1 by omega, rnp, if_pos hb]
theorem rn_n {x : TT} {p : Nat} (hb : ann (x.B p) = false) : rnF x p = 0 := by
  unfold rnF
  by_cases h : p < x.1
  · rw [show x.1 - p = (x.1 - (p + 1)) + 1 by omega, rnp, if_neg (by rw [hb]; decide)]
  · rw [show x.1 - p = 0 by omega]; rfl
theorem rn_le {x : TT} : ∀ (n p : Nat), x.1 - p ≤ n → p ≤ x.1 → p + rnF x p ≤ x.1 := by
  intro n
  induction n with
  | zero =>
    intro p h hp
    have : p = x.1 := by omega
    rw [rn_n (by rw [TT.B_n (by omega)]; exact ann_0)]
    omega
  | succ n ih =>
    intro p h hp
    cases c : ann (x.B p) with
    | false => rw [rn_n c]; omega
    | true =>
      have hlt : p < x.1 := by
        rcases Nat.lt_or_ge p x.1 with d | d
        · exact d
        · rw [TT.B_n d, ann_0] at c; cases c
      rw [rn_y c]
      have := ih (p + 1) (by omega) (by omega)
      omega
/-- all letters, all digits; their values -/
def alF (x : TT) (q : Nat) : Nat → Bool
  | 0 => true
  | n + 1 => alF x q n && ltr (x.B (q + n))
def adF (x : TT) (q : Nat) : Nat → Bool
  | 0 => true
  | n + 1 => adF x q n && dgt (x.B (q + n))
def wvF (x : TT) (q : Nat) : Nat → Nat
  | 0 => 0
  | n + 1 => 27 * wvF x q n + (x.B (q + n) - 96)
def nvF (x : TT) (q : Nat) : Nat → Nat
  | 0 => 0
  | n + 1 => 10 * nvF x q n + (x.B (q + n) - 48)
theorem ltr_t {c : Nat} : ltr c = true ↔ (97 ≤ c ∧ c ≤ 122) := decide_eq_true_iff
theorem dgt_t {c : Nat} : dgt c = true ↔ (48 ≤ c ∧ c ≤ 57) := decide_eq_true_iff
theorem wv_lt {x : TT} {q : Nat} : ∀ n, alF x q n = true → wvF x q n < 27 ^ n := by
  intro n
  induction n with
  | zero => intro _; exact (by decide : 0 < 27 ^ 0)
  | succ n ih =>
    intro h
    rw [alF, Bool.and_eq_true] at h
    have h1 := ih h.1
    have h2 := ltr_t.mp h.2
    rw [wvF, Nat.pow_succ]
    omega
theorem nv_lt {x : TT} {q : Nat} : ∀ n, adF x q n = true → nvF x q n < 10 ^ n := by
  intro n
  induction n with
  | zero => intro _; exact (by decide : 0 < 10 ^ 0)
  | succ n ih =>
    intro h
    rw [adF, Bool.and_eq_true] at h
    have h1 := ih h.1
    have h2 := dgt_t.mp h.2
    rw [nvF, Nat.pow_succ]
    omega
/-- the kinds: 0 the end, 1 none, 2 a word, 3 a number, 4 the sign -/
def kdF (x : TT) (q : Nat) : Nat :=
  if ann (x.B q) = true then (if alF x q (rnF x q) = true ∧ rnF x q ≤ 7 then 2 else if adF x q (rnF x q) = true ∧ rnF x q ≤ 2 then 3 else 1)
  else if x.B q = 59 then 4 else 1
def vlF (x : TT) (q : Nat) : Nat := if alF x q (rnF x q) = true then wvF x q (rnF x q) else nvF x q (rnF x q)
def nxF (x : TT) (q : Nat) : Nat := if ann (x.B q) = true then q + rnF x q else q + 1
/-- the token behind p: its kind, its place, its value, where it ends -/
def tkK (x : TT) (p : Nat) : Nat := if 600 < x.1 ∧ 600 ≤ skF x p then 1 else if x.1 ≤ skF x p then 0 else kdF x (skF x p)
def tkP (x : TT) (p : Nat) : Nat := if 600 < x.1 ∧ 600 ≤ skF x p then 600 else skF x p
def tkV (x : TT) (p : Nat) : Nat := vlF x (skF x p)
def tkT (x : TT) (p : Nat) : Nat := if 600 < x.1 ∧ 600 ≤ skF x p then skF x p else if x.1 ≤ skF x p then skF x p else nxF x (skF x p)
/-- what is read so far: what is awaited, the first point, the rows; the net; the names -/
abbrev RS : Type := (Nat × Nat × Nat) × NT × (Nat → Nat)
abbrev RS.e (s : RS) : Nat := s.1.1
abbrev RS.f (s : RS) : Nat := s.1.2.1
abbrev RS.r (s : RS) : Nat := s.1.2.2
abbrev RS.N (s : RS) : NT := s.2.1
abbrev RS.m (s : RS) : Nat → Nat := s.2.2
def WP : Nat := 8805260
def WL : Nat := 243140
def nmd (s : RS) (v : Nat) : Option Nat := fi (fun i => decide (s.m i = v)) s.N.told
def isNm (k v : Nat) : Bool := decide (k = 2 ∧ v ≠ WP ∧ v ≠ WL)
/-- a token is taken: a fault, the end, or what is read then -/
abbrev TR : Type := Sum Nat (Option RS)
def tk0 (s : RS) (k v : Nat) : TR :=
  if k = 2 ∧ v = WP then (if s.N.told = 12 then .inl 4 else .inr (some ((1, s.f, s.r), s.2)))
  else if k = 2 ∧ v = WL then (if lcB s.N.bt = 20 then .inl 4 else .inr (some ((4, s.f, s.r), s.2)))
  else if k = 0 then .inr none else .inl 1
def tk1 (s : RS) (k v : Nat) : TR :=
  if isNm k v = true then (if nmd s v = none then .inr (some ((2, s.f, s.r), s.N.addP, fun i => if i = s.N.told then v else s.m i)) else .inl 3) else .inl 1
def tk3 (s : RS) (k : Nat) : TR := if k = 4 then .inr (some ((0, s.f, s.r + 1), s.2)) else .inl 1
def tk2 (s : RS) (k v : Nat) : TR :=
  if k = 3 then (if 1 ≤ v ∧ v ≤ 9 then .inr (some ((3, s.f, s.r), s.N.setW (s.N.told - 1) v, s.m)) else .inl 2) else tk3 s k
def tk4 (s : RS) (k v : Nat) : TR :=
  if isNm k v = true then (match nmd s v with
    | none => .inl 3
    | some p => if dgB s.N.bt p = 6 then .inl 5 else .inr (some ((5, p, s.r), s.2))) else .inl 1
def tk5 (s : RS) (k v : Nat) : TR :=
  if isNm k v = true then (match nmd s v with
    | none => .inl 3
    | some p => if canJ s.N s.f p = true then .inr (some ((3, s.f, s.r), s.N.setL s.f p (s.N.bt s.f p + 1), s.m)) else .inl 5) else .inl 1
def tkF (s : RS) (k v : Nat) : TR :=
  if s.e = 0 then tk0 s k v else if s.e = 1 then tk1 s k v else if s.e = 2 then tk2 s k v else if s.e = 3 then tk3 s k else if s.e = 4 then tk4 s k v else tk5 s k v
/-- the whole text -/
abbrev RR : Type := Sum (Nat × Nat) (Nat × NT)
def goF (y : TR) (q : Nat) (s : RS) (g : RS → RR) : RR := match y with
  | .inl c => .inl (c, q)
  | .inr none => .inr (s.r, s.N)
  | .inr (some s') => g s'
def runF (x : TT) : Nat → Nat → RS → RR
  | 0 => fun _ _ => .inl (0, 0)
  | k + 1 => fun p s => goF (tkF s (tkK x p) (tkV x p)) (tkP x p) s (runF x k (tkT x p))
theorem runF_s (x : TT) (k p : Nat) (s : RS) : runF x (k + 1) p s = goF (tkF s (tkK x p) (tkV x p)) (tkP x p) s (runF x k (tkT x p)) := by
  rw [runF]
/-- what holds of what is read -/
def rsI (s : RS) : Prop := wf s.N ∧ s.e ≤ 5 ∧ (∀ i, i < s.N.told → s.N.here.testBit i = true) ∧ (s.e = 1 → s.N.told < 12) ∧ (s.e = 2 → 1 ≤ s.N.told) ∧ (s.e = 4 ∨ s.e = 5 → lcB s.N.bt < 20) ∧ (s.e = 5 → s.f < s.N.told ∧ dgB s.N.bt s.f ≤ 5)
theorem nmd_s {s : RS} {v p : Nat} (h : nmd s v = some p) : p < s.N.told ∧ s.m p = v := by
  obtain ⟨a, b, -⟩ := fi_s.mp h
  exact ⟨a, of_decide_eq_true b⟩
theorem tkF_I {s s' : RS} {k v : Nat} (h : rsI s) (ht : tkF s k v = .inr (some s')) : rsI s' := by
  obtain ⟨hw, he, hh, h1, h2, h4, h5⟩ := h
  have sg : ∀ s' : RS, tk3 s k = .inr (some s') → rsI s' := by
    intro s' ht
    unfold tk3 at ht
    by_cases c : k = 4
    · rw [if_pos c] at ht
      cases ht
      exact ⟨hw, by show 0 ≤ 5; omega, hh, fun z => (by cases z), fun z => (by cases z), fun z => (by rcases z with z | z <;> cases z), fun z => (by cases z)⟩
    · rw [if_neg c] at ht; cases ht
  unfold tkF at ht
  by_cases e0 : s.e = 0
  · rw [if_pos e0] at ht
    unfold tk0 at ht
    by_cases c1 : k = 2 ∧ v = WP
    · rw [if_pos c1] at ht
      by_cases c2 : s.N.told = 12
      · rw [if_pos c2] at ht; cases ht
      · rw [if_neg c2] at ht
        cases ht
        have := hw.1
        exact ⟨hw, by show 1 ≤ 5; omega, hh, fun _ => (by show s.N.told < 12; omega), fun z => (by cases z), fun z => (by rcases z with z | z <;> cases z), fun z => (by cases z)⟩
    · rw [if_neg c1] at ht
      by_cases c3 : k = 2 ∧ v = WL
      · rw [if_pos c3] at ht
        by_cases c2 : lcB s.N.bt = 20
        · rw [if_pos c2] at ht; cases ht
        · rw [if_neg c2] at ht
          cases ht
          have := hw.2.2.2.2.2.2.1
          exact ⟨hw, by show 4 ≤ 5; omega, hh, fun z => (by cases z), fun z => (by cases z), fun _ => (by show lcB s.N.bt < 20; omega), fun z => (by cases z)⟩
      · rw [if_neg c3] at ht
        by_cases c4 : k = 0
        · rw [if_pos c4] at ht; cases ht
        · rw [if_neg c4] at ht; cases ht
  rw [if_neg e0] at ht
  by_cases e1 : s.e = 1
  · rw [if_pos e1] at ht
    unfold tk1 at ht
    by_cases c1 : isNm k v = true
    · rw [if_pos c1] at ht
      by_cases c2 : nmd s v = none
      · rw [if_pos c2] at ht
        cases ht
        refine ⟨addP_wf hw (h1 e1), by show 2 ≤ 5; omega, fun i hi => ?_, fun z => (by cases z), fun _ => (by show 1 ≤ s.N.told + 1; omega), fun z => (by rcases z with z | z <;> cases z), fun z => (by cases z)⟩
        have hi : i < s.N.told + 1 := hi
        show (s.N.here ||| 2 ^ s.N.told).testBit i = true
        rw [tb_or, tb_two]
        by_cases d : i = s.N.told
        · exact Or.inr d.symm
        · exact Or.inl (hh i (by omega))
      · rw [if_neg c2] at ht; cases ht
    · rw [if_neg c1] at ht; cases ht
  rw [if_neg e1] at ht
  by_cases e2 : s.e = 2
  · rw [if_pos e2] at ht
    unfold tk2 at ht
    by_cases c1 : k = 3
    · rw [if_pos c1] at ht
      by_cases c2 : 1 ≤ v ∧ v ≤ 9
      · rw [if_pos c2] at ht
        cases ht
        exact ⟨setW_wf hw c2.1 c2.2, by show 3 ≤ 5; omega, hh, fun z => (by cases z), fun z => (by cases z), fun z => (by rcases z with z | z <;> cases z), fun z => (by cases z)⟩
      · rw [if_neg c2] at ht; cases ht
    · rw [if_neg c1] at ht; exact sg s' ht
  rw [if_neg e2] at ht
  by_cases e3 : s.e = 3
  · rw [if_pos e3] at ht; exact sg s' ht
  rw [if_neg e3] at ht
  by_cases e4 : s.e = 4
  · rw [if_pos e4] at ht
    unfold tk4 at ht
    by_cases c1 : isNm k v = true
    · rw [if_pos c1] at ht
      cases c2 : nmd s v with
      | none => rw [c2] at ht; cases ht
      | some p =>
        rw [c2] at ht
        have ht : (if dgB s.N.bt p = 6 then .inl 5 else .inr (some ((5, p, s.r), s.2)) : TR) = .inr (some s') := ht
        by_cases c3 : dgB s.N.bt p = 6
        · rw [if_pos c3] at ht; cases ht
        · rw [if_neg c3] at ht
          cases ht
          have hp := (nmd_s c2).1
          have := hw.2.2.2.2.2.2.2 p (by have := hw.1; omega)
          exact ⟨hw, by show 5 ≤ 5; omega, hh, fun z => (by cases z), fun z => (by cases z), fun _ => h4 (Or.inl e4), fun _ => ⟨hp, by show dgB s.N.bt p ≤ 5; omega⟩⟩
    · rw [if_neg c1] at ht; cases ht
  rw [if_neg e4] at ht
  have e5 : s.e = 5 := by omega
  unfold tk5 at ht
  by_cases c1 : isNm k v = true
  · rw [if_pos c1] at ht
    cases c2 : nmd s v with
    | none => rw [c2] at ht; cases ht
    | some p =>
      rw [c2] at ht
      have ht : (if canJ s.N s.f p = true then .inr (some ((3, s.f, s.r), s.N.setL s.f p (s.N.bt s.f p + 1), s.m)) else .inl 5 : TR) = .inr (some s') := ht
      by_cases c3 : canJ s.N s.f p = true
      · rw [if_pos c3] at ht
        cases ht
        have hp := (nmd_s c2).1
        have hf := (h5 e5).1
        have ht12 := hw.1
        exact ⟨canJ_wf hw (by omega) (by omega) (hh _ hf) (hh _ hp) c3, by show 3 ≤ 5; omega, hh, fun z => (by cases z), fun z => (by cases z), fun z => (by rcases z with z | z <;> cases z), fun z => (by cases z)⟩
      · rw [if_neg c3] at ht; cases ht
  · rw [if_neg c1] at ht; cases ht
