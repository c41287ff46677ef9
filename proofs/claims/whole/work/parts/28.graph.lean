/-! GRAPHS: what hangs together -/
def closed (B : Nat → Nat → Nat) (S T : Nat) : Prop := ∀ i j, T.testBit i = true → S.testBit j = true → B i j ≠ 0 → T.testBit j = true
def conn (B : Nat → Nat → Nat) (S p q : Nat) : Prop := ∀ T : Nat, T.testBit p = true → closed B S T → T.testBit q = true
def isC (B : Nat → Nat → Nat) (S p R : Nat) : Prop := R.testBit p = true ∧ closed B S R ∧ ∀ q, R.testBit q = true → (q = p ∨ S.testBit q = true) ∧ conn B S p q
def subS (a b : Nat) : Prop := ∀ i, a.testBit i = true → b.testBit i = true
theorem subS_le {a b : Nat} (h : subS a b) : a ≤ b := by
  have := sub_and.mpr h
  rw [← this]; exact Nat.and_le_right
theorem subS_lt {a b n : Nat} (h : subS a b) (hb : b < n) : a < n := Nat.lt_of_le_of_lt (subS_le h) hb
theorem isC_uni {B : Nat → Nat → Nat} {S p R R' : Nat} (h : isC B S p R) (h' : isC B S p R') : R = R' := by
  apply Nat.eq_of_testBit_eq
  intro i
  cases e : R.testBit i with
  | true => exact (((h.2.2 i e).2 R' h'.1 h'.2.1)).symm
  | false =>
    cases f : R'.testBit i with
    | false => rfl
    | true => have := (h'.2.2 i f).2 R h.1 h.2.1; rw [e] at this; cases this
theorem b32 {S : Nat} (h : S < 4096) : S < 2 ^ 32 := Nat.lt_of_lt_of_le h (by decide)
theorem conn_sym {B : Nat → Nat → Nat} (hs : symB B) {S p q : Nat} (hS : S < 4096) (hp : S.testBit p = true) (h : conn B S p q) : conn B S q p := by
  intro T hq hT
  cases e : T.testBit p with
  | true => rfl
  | false =>
    have h1 : closed B S (dif S T) := by
      intro i j hi hj hb
      rw [tb_dif (b32 hS)] at hi ⊢
      rw [Bool.and_eq_true] at hi
      cases f : T.testBit j with
      | false => rw [hj]; rfl
      | true =>
        have := hT j i f hi.1 (by rw [hs j i]; exact hb)
        rw [this] at hi
        exact absurd hi.2 (by decide)
    have h2 := h (dif S T) (by rw [tb_dif (b32 hS), hp, e]; rfl) h1
    rw [tb_dif (b32 hS), hq] at h2
    simp at h2
theorem conn_trans {B : Nat → Nat → Nat} {S p q r : Nat} (h : conn B S p q) (g : conn B S q r) : conn B S p r := fun T hp hT => g T (h T hp hT) hT
theorem closed_sub {B : Nat → Nat → Nat} {S S' T : Nat} (h : subS S' S) (hT : closed B S T) : closed B S' T := fun i j hi hj hb => hT i j hi (h j hj) hb
theorem conn_sub {B : Nat → Nat → Nat} {S S' p q : Nat} (h : subS S' S) (hc : conn B S' p q) : conn B S p q := fun T hp hT => hc T hp (closed_sub h hT)
theorem dif_sub {a b : Nat} (ha : a < 4096) : subS (dif a b) a := by
  intro i hi
  rw [tb_dif (b32 ha), Bool.and_eq_true] at hi
  exact hi.1
/-- the part of S that p lies in -/
noncomputable def comp (B : Nat → Nat → Nat) (S p : Nat) : Nat := 2 ^ p ||| st (fun q => S.testBit q && @decide (conn B S p q) (Classical.propDecidable _)) 12
theorem comp_is (B : Nat → Nat → Nat) {S p : Nat} (hS : S < 4096) : isC B S p (comp B S p) := by
  have key : ∀ q, (comp B S p).testBit q = true ↔ (q = p ∨ (S.testBit q = true ∧ conn B S p q)) := by
    intro q
    unfold comp
    rw [Nat.testBit_or, tb_bit, tb_st, Bool.or_eq_true, Bool.and_eq_true, Bool.and_eq_true]
    rw [@decide_eq_true_iff (conn B S p q) (Classical.propDecidable _), decide_eq_true_iff, decide_eq_true_iff]
    constructor
    · rintro (h | ⟨-, h⟩)
      · exact Or.inl h.symm
      · exact Or.inr h
    · rintro (h | h)
      · exact Or.inl h.symm
      · exact Or.inr ⟨tb_lt (n := 12) h.1 hS, h⟩
  refine ⟨(key p).mpr (Or.inl rfl), ?_, ?_⟩
  · intro i j hi hj hb
    refine (key j).mpr (Or.inr ⟨hj, ?_⟩)
    intro T hp hT
    rcases (key i).mp hi with rfl | h
    · exact hT i j hp hj hb
    · exact hT i j (h.2 T hp hT) hj hb
  · intro q hq
    rcases (key q).mp hq with rfl | h
    · exact ⟨Or.inl rfl, fun T hp _ => hp⟩
    · exact ⟨Or.inr h.1, h.2⟩
/-- how many parts: those points that are the lowest of theirs -/
noncomputable def isL (B : Nat → Nat → Nat) (S q : Nat) : Bool := S.testBit q && @decide (∀ i, i < q → S.testBit i = true → ¬ conn B S q i) (Classical.propDecidable _)
noncomputable def CC (B : Nat → Nat → Nat) (S : Nat) : Nat := sm (fun q => bI (isL B S q)) 12
theorem isL_t {B : Nat → Nat → Nat} {S q : Nat} : isL B S q = true ↔ (S.testBit q = true ∧ ∀ i, i < q → S.testBit i = true → ¬ conn B S q i) := by
  unfold isL
  rw [Bool.and_eq_true, @decide_eq_true_iff _ (Classical.propDecidable _)]
theorem bI_eq {a b : Bool} (h : a = true ↔ b = true) : bI a = bI b := by
  cases a <;> cases b <;> simp_all
theorem CC_0 (B : Nat → Nat → Nat) : CC B 0 = 0 := sm_zero _ (fun i _ => by
  have : isL B 0 i = false := by unfold isL; rw [Nat.zero_testBit]; rfl
  rw [this]; rfl)
theorem CC_part {B : Nat → Nat → Nat} (hs : symB B) {S p R : Nat} (hS : S < 4096) (hp : S.testBit p = true) (hR : isC B S p R) : CC B S = CC B (dif S R) + 1 := by
  have hRS : subS R S := fun i hi => by rcases (hR.2.2 i hi).1 with rfl | h; exact hp; exact h
  have hR4 := subS_lt hRS hS
  have hR0 : R ≠ 0 := by
    intro e
    have := hR.1
    rw [e, Nat.zero_testBit] at this; cases this
  obtain ⟨m1, m2, m3⟩ := lo_all R hR4 hR0
  have inR : ∀ i, conn B S p i → R.testBit i = true := fun i h => h R hR.1 hR.2.1
  have hd : ∀ i, (dif S R).testBit i = true ↔ (S.testBit i = true ∧ R.testBit i = false) := by
    intro i
    rw [tb_dif (b32 hS), Bool.and_eq_true]
    cases R.testBit i <;> simp
  have hm : isL B S (lo R) = true := isL_t.mpr ⟨hRS _ m2, fun i hi _ hc => by
    have := inR i (conn_trans (hR.2.2 _ m2).2 hc)
    rw [m3 i hi] at this; cases this⟩
  have hm' : isL B (dif S R) (lo R) = false := by
    cases e : isL B (dif S R) (lo R) with
    | false => rfl
    | true =>
      have := ((hd _).mp (isL_t.mp e).1).2
      rw [m2] at this; cases this
  have ho : ∀ i, i < 12 → i ≠ lo R → bI (isL B S i) = bI (isL B (dif S R) i) := by
    intro i hi hne
    apply bI_eq
    cases e : R.testBit i with
    | true =>
      constructor
      · intro h
        exfalso
        have h := isL_t.mp h
        have hlt : lo R < i := by
          rcases Nat.lt_or_ge (lo R) i with c | c
          · exact c
          · have := m3 i (by omega)
            rw [e] at this; cases this
        exact h.2 (lo R) hlt (hRS _ m2) (conn_trans (conn_sym hs hS hp (hR.2.2 i e).2) (hR.2.2 _ m2).2)
      · intro h
        have := ((hd _).mp (isL_t.mp h).1).2
        rw [e] at this; cases this
    | false =>
      have hc : ∀ j, R.testBit j = false → S.testBit i = true → (conn B S i j ↔ conn B (dif S R) i j) := by
        intro j hj hi
        constructor
        · intro h T ht hT
          have h1 := h (T ||| R) (by rw [Nat.testBit_or, ht]; rfl) (by
            intro a b ha hb hab
            rw [Nat.testBit_or, Bool.or_eq_true] at ha ⊢
            cases f : R.testBit b with
            | true => exact Or.inr rfl
            | false =>
              rcases ha with ha | ha
              · exact Or.inl (hT a b ha ((hd b).mpr ⟨hb, f⟩) hab)
              · have := hR.2.1 a b ha hb hab
                rw [f] at this; cases this)
          rw [Nat.testBit_or, hj, Bool.or_false] at h1
          exact h1
        · exact fun h => conn_sub (dif_sub hS) h
      constructor
      · intro h
        have h := isL_t.mp h
        exact isL_t.mpr ⟨(hd i).mpr ⟨h.1, e⟩, fun j hj hjs hcj => h.2 j hj ((hd j).mp hjs).1 ((hc j ((hd j).mp hjs).2 h.1).mpr hcj)⟩
      · intro h
        have h := isL_t.mp h
        have hi := ((hd i).mp h.1).1
        refine isL_t.mpr ⟨hi, fun j hj hjs hcj => ?_⟩
        cases f : R.testBit j with
        | true =>
          have := inR i (conn_trans (hR.2.2 j f).2 (conn_sym hs hS hi hcj))
          rw [e] at this; cases this
        | false => exact h.2 j hj ((hd j).mpr ⟨hjs, f⟩) ((hc j f hi).mp hcj)
  have := sm_upd m1 ho
  rw [hm, hm'] at this
  unfold CC
  simp only [bI] at this ⊢
  simpa using this
theorem CC_pos {B : Nat → Nat → Nat} (hs : symB B) {S : Nat} (hS : S < 4096) (h0 : S ≠ 0) : 1 ≤ CC B S := by
  obtain ⟨m1, m2, m3⟩ := lo_all S hS h0
  rw [CC_part hs hS m2 (comp_is B hS)]; omega
theorem CC_le (B : Nat → Nat → Nat) (S : Nat) : CC B S ≤ pc S 12 := sm_mono _ (fun i _ => by
  cases e : isL B S i with
  | false => exact Nat.zero_le _
  | true => rw [(isL_t.mp e).1]; exact Nat.le_refl _)
/-! ring-free sets -/
def Free (B : Nat → Nat → Nat) (S : Nat) : Prop := ∀ T, subS T S → T ≠ 0 → ∃ p, T.testBit p = true ∧ dS B T p ≤ 1
def opn (B : Nat → Nat → Nat) (S : Nat) : Prop := eS B S / 2 + CC B S = pc S 12
theorem dS_mono {B : Nat → Nat → Nat} {S T p : Nat} (h : subS T S) : dS B T p ≤ dS B S p := by
  unfold dS
  apply Nat.add_le_add_left
  apply sm_mono
  intro i _
  cases e : T.testBit i with
  | false => simp [bI]
  | true => rw [h i e]; exact Nat.le_refl _
theorem subS_tr {a b c : Nat} (h : subS a b) (g : subS b c) : subS a c := fun i hi => g i (h i hi)
theorem Free_sub {B : Nat → Nat → Nat} {S T : Nat} (h : subS T S) (hf : Free B S) : Free B T := fun U hU h0 => hf U (subS_tr hU h) h0
theorem tb_dif1 {S p i : Nat} (hS : S < 4096) : (dif S (2 ^ p)).testBit i = true ↔ (S.testBit i = true ∧ i ≠ p) := by
  rw [tb_dif (b32 hS), tb_bit, Bool.and_eq_true]
  by_cases e : p = i
  · subst e; simp
  · simp [e, Ne.symm e]
theorem Free_tip {B : Nat → Nat → Nat} {S p : Nat} (hS : S < 4096) (hd : dS B S p ≤ 1) : Free B S ↔ Free B (dif S (2 ^ p)) := by
  constructor
  · exact Free_sub (dif_sub hS)
  · intro h T hT h0
    cases e : T.testBit p with
    | true => exact ⟨p, e, Nat.le_trans (dS_mono hT) hd⟩
    | false =>
      refine h T (fun i hi => (tb_dif1 hS).mpr ⟨hT i hi, ?_⟩) h0
      rintro rfl
      rw [e] at hi; cases hi
theorem pc_tip {S p : Nat} (hS : S < 4096) (hp : S.testBit p = true) : pc S 12 = pc (dif S (2 ^ p)) 12 + 1 := by
  have h1 := sm_upd (f := fun i => bI (S.testBit i)) (g := fun i => bI ((dif S (2 ^ p)).testBit i)) (tb_lt (n := 12) hp hS) (fun i _ hne => bI_eq (by rw [tb_dif1 hS]; simp [hne]))
  have h2 : (dif S (2 ^ p)).testBit p = false := by
    cases e : (dif S (2 ^ p)).testBit p with
    | false => rfl
    | true => exact absurd rfl ((tb_dif1 hS).mp e).2
  simp only [hp, h2, bI_t, bI_f] at h1
  unfold pc
  omega
theorem dif_lt' {S p : Nat} (hS : S < 4096) (hp : S.testBit p = true) : dif S (2 ^ p) < S := by
  have h1 := subS_le (dif_sub (b := 2 ^ p) hS)
  rcases Nat.lt_or_ge (dif S (2 ^ p)) S with c | c
  · exact c
  · have e : dif S (2 ^ p) = S := Nat.le_antisymm h1 c
    have := (tb_dif1 (p := p) (i := p) hS).mp (by rw [e]; exact hp)
    exact absurd rfl this.2
