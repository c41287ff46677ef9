/-! OPEN SETS ARE THE RING-FREE ONES -/
theorem dS_out {B : Nat → Nat → Nat} {S p : Nat} (hS : S < 4096) (hp : S.testBit p = true) (i : Nat) : dS B S i = dS B (dif S (2 ^ p)) i + B i p := by
  have h1 := sm_upd (f := fun j => bI (S.testBit j) * B i j) (g := fun j => bI ((dif S (2 ^ p)).testBit j) * B i j) (tb_lt (n := 12) hp hS) (fun j _ hne => by
    show bI (S.testBit j) * B i j = bI ((dif S (2 ^ p)).testBit j) * B i j
    rw [bI_eq (a := S.testBit j) (b := (dif S (2 ^ p)).testBit j) (by rw [tb_dif1 hS]; simp [hne])])
  have h2 : (dif S (2 ^ p)).testBit p = false := by
    cases e : (dif S (2 ^ p)).testBit p with
    | false => rfl
    | true => exact absurd rfl ((tb_dif1 hS).mp e).2
  simp only [hp, h2, bI_t, bI_f, Nat.zero_mul, Nat.one_mul] at h1
  unfold dS
  omega
theorem eS_out {B : Nat → Nat → Nat} (hs : symB B) {S p : Nat} (hS : S < 4096) (hp : S.testBit p = true) : eS B S + 2 * B p p = eS B (dif S (2 ^ p)) + 2 * dS B S p := by
  have h2 : (dif S (2 ^ p)).testBit p = false := by
    cases e : (dif S (2 ^ p)).testBit p with
    | false => rfl
    | true => exact absurd rfl ((tb_dif1 hS).mp e).2
  have h1 := sm_upd (f := fun i => bI (S.testBit i) * dS B S i) (g := fun i => bI ((dif S (2 ^ p)).testBit i) * dS B (dif S (2 ^ p)) i + bI ((dif S (2 ^ p)).testBit i) * B i p) (tb_lt (n := 12) hp hS) (fun i _ hne => by
    show bI (S.testBit i) * dS B S i = bI ((dif S (2 ^ p)).testBit i) * dS B (dif S (2 ^ p)) i + bI ((dif S (2 ^ p)).testBit i) * B i p
    rw [bI_eq (a := S.testBit i) (b := (dif S (2 ^ p)).testBit i) (by rw [tb_dif1 hS]; simp [hne]), dS_out hS hp, Nat.mul_add])
  rw [sm_add] at h1
  have h3 := sm_upd (f := fun i => bI (S.testBit i) * B p i) (g := fun i => bI ((dif S (2 ^ p)).testBit i) * B i p) (tb_lt (n := 12) hp hS) (fun i _ hne => by
    show bI (S.testBit i) * B p i = bI ((dif S (2 ^ p)).testBit i) * B i p
    rw [bI_eq (a := S.testBit i) (b := (dif S (2 ^ p)).testBit i) (by rw [tb_dif1 hS]; simp [hne]), hs p i])
  simp only [hp, h2, bI_t, bI_f, Nat.zero_mul, Nat.one_mul, Nat.add_zero] at h1 h3
  have h4 : dS B S p = B p p + sm (fun i => bI (S.testBit i) * B p i) 12 := rfl
  unfold eS
  omega
theorem dS_nb {B : Nat → Nat → Nat} {S p q : Nat} (hS : S < 4096) (hq : S.testBit q = true) : B p q ≤ dS B S p ∧ (p = q → 2 * B p p ≤ dS B S p) := by
  have h1 := sm_ge (f := fun j => bI (S.testBit j) * B p j) (k := q) 12 (tb_lt (n := 12) hq hS)
  simp only [hq, bI_t, Nat.one_mul] at h1
  unfold dS
  refine ⟨by omega, fun e => ?_⟩
  subst e; omega
theorem dS_nb2 {B : Nat → Nat → Nat} {S p q r : Nat} (hS : S < 4096) (hq : S.testBit q = true) (hr : S.testBit r = true) (hne : q ≠ r) : B p q + B p r ≤ dS B S p := by
  have h0 := dS_out (B := B) hS hq p
  have h1 := (dS_nb (B := B) (p := p) (S := dif S (2 ^ q)) (q := r) (Nat.lt_of_le_of_lt (subS_le (dif_sub hS)) hS) ((tb_dif1 hS).mpr ⟨hr, Ne.symm hne⟩)).1
  omega
theorem ex_nb {B : Nat → Nat → Nat} {S p : Nat} (h : dS B S p ≠ 0) : B p p ≠ 0 ∨ ∃ q, q < 12 ∧ S.testBit q = true ∧ B p q ≠ 0 := by
  by_cases e : B p p = 0
  · right
    have h1 : sm (fun j => bI (S.testBit j) * B p j) 12 ≠ 0 := by unfold dS at h; omega
    refine Classical.byContradiction (fun hn => h1 (sm_zero _ (fun i hi => ?_)))
    cases f : S.testBit i with
    | false => simp [bI]
    | true =>
      by_cases g : B p i = 0
      · simp [g]
      · exact absurd ⟨i, hi, f, g⟩ hn
  · exact Or.inl e
theorem dS_zero {B : Nat → Nat → Nat} {S p : Nat} (hS : S < 4096) (hp : S.testBit p = true) (hd : dS B S p ≤ 1) : B p p = 0 := by
  have := (dS_nb (B := B) (p := p) hS hp).2 rfl
  omega
theorem CC_tip {B : Nat → Nat → Nat} (hs : symB B) {S p : Nat} (hS : S < 4096) (hp : S.testBit p = true) (hd : dS B S p ≤ 1) : CC B S + dS B S p = CC B (dif S (2 ^ p)) + 1 := by
  have hpp := dS_zero hS hp hd
  by_cases d0 : dS B S p = 0
  · have h1 : isC B S p (2 ^ p) := by
      refine ⟨by rw [tb_bit]; simp, ?_, ?_⟩
      · intro i j hi hj hb
        rw [tb_bit, decide_eq_true_iff] at hi
        subst hi
        have := (dS_nb (B := B) (p := p) hS hj).1
        omega
      · intro q hq
        rw [tb_bit, decide_eq_true_iff] at hq
        subst hq
        exact ⟨Or.inl rfl, fun T h _ => h⟩
    rw [CC_part hs hS hp h1, d0]
  · rcases ex_nb d0 with h | ⟨u, hu12, hu, hB⟩
    · exact absurd hpp h
    · have hup : u ≠ p := by rintro rfl; exact hB hpp
      have hun : ∀ j, S.testBit j = true → B p j ≠ 0 → j = u := by
        intro j hj hb
        refine Classical.byContradiction (fun hne => ?_)
        have := dS_nb2 (B := B) (p := p) hS hj hu hne
        omega
      have hS' : dif S (2 ^ p) < 4096 := Nat.lt_trans (dif_lt' hS hp) hS
      have hu' := (tb_dif1 (p := p) (i := u) hS).mpr ⟨hu, hup⟩
      have hR := comp_is B (S := dif S (2 ^ p)) (p := u) hS'
      have hRm : (comp B (dif S (2 ^ p)) u) < 4096 := subS_lt (fun i hi => by
        rcases (hR.2.2 i hi).1 with rfl | h
        · exact hu'
        · exact h) hS'
      have hcu : conn B S p u := fun T ht hT => hT p u ht hu hB
      have h1 : isC B S p (comp B (dif S (2 ^ p)) u ||| 2 ^ p) := by
        refine ⟨by rw [Nat.testBit_or, tb_bit]; simp, ?_, ?_⟩
        · intro i j hi hj hb
          rw [Nat.testBit_or, tb_bit, Bool.or_eq_true, decide_eq_true_iff] at hi ⊢
          by_cases e : p = j
          · exact Or.inr e
          · left
            rcases hi with hi | rfl
            · exact hR.2.1 i j hi ((tb_dif1 hS).mpr ⟨hj, Ne.symm e⟩) hb
            · rw [hun j hj hb]; exact hR.1
        · intro q hq
          rw [Nat.testBit_or, tb_bit, Bool.or_eq_true, decide_eq_true_iff] at hq
          rcases hq with hq | rfl
          · obtain ⟨g1, g2⟩ := hR.2.2 q hq
            refine ⟨Or.inr ?_, conn_trans hcu (conn_sub (dif_sub hS) g2)⟩
            rcases g1 with rfl | g1
            · exact hu
            · exact dif_sub hS q g1
          · exact ⟨Or.inl rfl, fun T h _ => h⟩
      rw [CC_part hs hS hp h1, CC_part hs hS' hu' hR]
      have : dif S (comp B (dif S (2 ^ p)) u ||| 2 ^ p) = dif (dif S (2 ^ p)) (comp B (dif S (2 ^ p)) u) := by
        apply Nat.eq_of_testBit_eq
        intro i
        rw [tb_dif (b32 hS), tb_dif (b32 hS'), tb_dif (b32 hS), Nat.testBit_or]
        cases S.testBit i <;> cases (comp B (dif S (2 ^ p)) u).testBit i <;> cases (2 ^ p).testBit i <;> rfl
      rw [this]
      omega
theorem opn_tip {B : Nat → Nat → Nat} (hs : symB B) {S p : Nat} (hS : S < 4096) (hp : S.testBit p = true) (hd : dS B S p ≤ 1) : opn B S ↔ opn B (dif S (2 ^ p)) := by
  have h1 := eS_out hs hS hp
  have h2 := CC_tip hs hS hp hd
  have h3 := pc_tip hS hp
  have h4 := dS_zero hS hp hd
  unfold opn
  omega
theorem opn_busy {B : Nat → Nat → Nat} (hs : symB B) {S : Nat} (hS : S < 4096) (h0 : S ≠ 0) (hd : ∀ p, S.testBit p = true → 2 ≤ dS B S p) : ¬ opn B S := by
  have h1 := CC_pos hs hS h0
  have h2 : pc S 12 + pc S 12 ≤ eS B S := by
    have := sm_mono (f := fun i => bI (S.testBit i) + bI (S.testBit i)) (g := fun i => bI (S.testBit i) * dS B S i) 12 (fun i _ => by
      show bI (S.testBit i) + bI (S.testBit i) ≤ bI (S.testBit i) * dS B S i
      cases e : S.testBit i with
      | false => simp [bI]
      | true => have := hd i e; simp only [bI_t, Nat.one_mul]; omega)
    rw [sm_add] at this
    exact this
  unfold opn
  omega
theorem free_opn {B : Nat → Nat → Nat} (hs : symB B) : ∀ n S, S < n → S < 4096 → (Free B S ↔ opn B S) := by
  intro n
  induction n with
  | zero => intro S h; omega
  | succ n ih =>
    intro S h hS
    by_cases h0 : S = 0
    · subst h0
      constructor
      · intro _
        unfold opn
        rw [CC_0, pc0]
        unfold eS
        rw [sm_zero _ (fun i _ => by rw [Nat.zero_testBit]; simp [bI])]
      · intro _ T hT h1
        have := subS_le hT
        omega
    · by_cases ht : ∃ p, S.testBit p = true ∧ dS B S p ≤ 1
      · obtain ⟨p, hp, hd⟩ := ht
        have hl := dif_lt' hS hp
        rw [Free_tip hS hd, opn_tip hs hS hp hd]
        exact ih _ (by omega) (by omega)
      · have hb : ∀ p, S.testBit p = true → 2 ≤ dS B S p := by
          intro p hp
          rcases Nat.lt_or_ge (dS B S p) 2 with c | c
          · exact absurd ⟨p, hp, by omega⟩ ht
          · exact c
        constructor
        · intro hf
          obtain ⟨p, hp, hd⟩ := hf S (fun i h => h) h0
          have := hb p hp
          omega
        · intro ho
          exact absurd ho (opn_busy hs hS h0 hb)
