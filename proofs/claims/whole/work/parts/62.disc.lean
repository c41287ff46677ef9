/-! THE DISCOUNT: its steps, on numbers alone -/
/-- the first point of C that has the least w by o -/
def mn (C : Nat) (w o : Nat → Nat) : Nat → Option Nat
  | 0 => none
  | q + 1 => if C.testBit q = true then (match mn C w o q with
      | none => some q
      | some p => if w q * o p < w p * o q then some q else some p) else mn C w o q
theorem mn_f {C : Nat} {w o : Nat → Nat} {q : Nat} (h : C.testBit q = false) : mn C w o (q + 1) = mn C w o q := by
  rw [mn, if_neg (by rw [h]; decide)]
theorem mn_0 {C : Nat} {w o : Nat → Nat} {q : Nat} (h : C.testBit q = true) (e : mn C w o q = none) : mn C w o (q + 1) = some q := by
  rw [mn, if_pos h, e]
theorem mn_y {C : Nat} {w o : Nat → Nat} {q p : Nat} (h : C.testBit q = true) (e : mn C w o q = some p) (l : w q * o p < w p * o q) : mn C w o (q + 1) = some q := by
  rw [mn, if_pos h, e]
  show (if w q * o p < w p * o q then some q else some p) = some q
  rw [if_pos l]
theorem mn_k {C : Nat} {w o : Nat → Nat} {q p : Nat} (h : C.testBit q = true) (e : mn C w o q = some p) (l : ¬ w q * o p < w p * o q) : mn C w o (q + 1) = some p := by
  rw [mn, if_pos h, e]
  show (if w q * o p < w p * o q then some q else some p) = some p
  rw [if_neg l]
theorem mn_ok {C : Nat} {w o : Nat → Nat} (ho : ∀ i, C.testBit i = true → 0 < o i) : ∀ n p, mn C w o n = some p → p < n ∧ C.testBit p = true ∧ ∀ i, i < n → C.testBit i = true → w p * o i ≤ w i * o p := by
  intro n
  induction n with
  | zero => intro p h; cases h
  | succ n ih =>
    intro p h
    cases hc : C.testBit n with
    | false =>
      rw [mn_f hc] at h
      obtain ⟨a, b, c⟩ := ih p h
      refine ⟨by omega, b, fun i hi ht => ?_⟩
      by_cases e : i = n
      · subst e; rw [hc] at ht; cases ht
      · exact c i (by omega) ht
    | true =>
      cases hm : mn C w o n with
      | none =>
        rw [mn_0 hc hm] at h
        cases h
        refine ⟨by omega, hc, fun i hi ht => ?_⟩
        by_cases e : i = n
        · subst e; exact Nat.le_refl _
        · exfalso
          have : ∀ m, m ≤ n → i < m → mn C w o m ≠ none := by
            intro m
            induction m with
            | zero => intro _ h; omega
            | succ m ih2 =>
              intro h1 h2
              cases hd : C.testBit m with
              | false =>
                rw [mn_f hd]
                refine ih2 (by omega) ?_
                rcases Nat.lt_or_ge i m with c | c
                · exact c
                · rw [show m = i by omega, ht] at hd; cases hd
              | true =>
                cases hk : mn C w o m with
                | none => rw [mn_0 hd hk]; exact fun z => by cases z
                | some k =>
                  by_cases l : w m * o k < w k * o m
                  · rw [mn_y hd hk l]; exact fun z => by cases z
                  · rw [mn_k hd hk l]; exact fun z => by cases z
          exact this n (Nat.le_refl n) (by omega) hm
      | some k =>
        obtain ⟨a, b, c⟩ := ih k hm
        by_cases l : w n * o k < w k * o n
        · rw [mn_y hc hm l] at h
          cases h
          refine ⟨by omega, hc, fun i hi ht => ?_⟩
          by_cases e : i = n
          · subst e; exact Nat.le_refl _
          · have h1 := c i (by omega) ht
            have h2 : w n * o i * o k ≤ w i * o n * o k := by
              calc w n * o i * o k = (w n * o k) * o i := by rw [Nat.mul_assoc, Nat.mul_comm (o i), Nat.mul_assoc]
                _ ≤ (w k * o n) * o i := Nat.mul_le_mul_right _ (Nat.le_of_lt l)
                _ = (w k * o i) * o n := by rw [Nat.mul_assoc, Nat.mul_comm (o n), Nat.mul_assoc]
                _ ≤ (w i * o k) * o n := Nat.mul_le_mul_right _ h1
                _ = w i * o n * o k := by rw [Nat.mul_assoc, Nat.mul_comm (o k), Nat.mul_assoc]
            exact Nat.le_of_mul_le_mul_right h2 (ho k b)
        · rw [mn_k hc hm l] at h
          cases h
          refine ⟨by omega, b, fun i hi ht => ?_⟩
          by_cases e : i = n
          · subst e; omega
          · exact c i (by omega) ht
theorem mn_ex {C : Nat} {w o : Nat → Nat} {i : Nat} (hi : C.testBit i = true) : ∀ n, i < n → ∃ p, mn C w o n = some p := by
  intro n
  induction n with
  | zero => intro h; omega
  | succ n ih =>
    intro h
    cases hc : C.testBit n with
    | false =>
      rw [mn_f hc]
      refine ih ?_
      rcases Nat.lt_or_ge i n with c | c
      · exact c
      · rw [show n = i by omega, hi] at hc; cases hc
    | true =>
      cases hm : mn C w o n with
      | none => exact ⟨n, mn_0 hc hm⟩
      | some k =>
        by_cases l : w n * o k < w k * o n
        · exact ⟨n, mn_y hc hm l⟩
        · exact ⟨k, mn_k hc hm l⟩
/-- of which points, how often, how much of the bound -/
def cS (S r : Nat) : Nat := if r = 0 then S else r
def cO (B : Nat → Nat → Nat) (S r : Nat) : Nat → Nat := fun i => if r = 0 then dS B S i - 1 else 1
noncomputable def cM (B : Nat → Nat → Nat) (S r : Nat) : Nat := if r = 0 then eS B S / 2 + CC B S - pc S 12 else 1
def dW (C : Nat) (o : Nat → Nat) (p : Nat) (w : Nat → Nat) : Nat → Nat := fun i => if C.testBit i = true then w i * o p - w p * o i else w i * o p
/-- those of no weight go onto the pile -/
abbrev PiT : Type := Nat × Nat × (Nat → Nat)
def pil1 (w : Nat → Nat) (q : Nat) (y : PiT) : PiT := if (y.1.testBit q && decide (w q = 0)) = true then (dif y.1 (2 ^ q), y.2.1 + 1, fun i => if i = y.2.1 then q else y.2.2 i) else y
def pilF (w : Nat → Nat) : Nat → PiT → PiT
  | 0, y => y
  | q + 1, y => pilF w q (pil1 w q y)
theorem pil1_lt {w : Nat → Nat} {q : Nat} {y : PiT} (h : y.1 < 4096) : (pil1 w q y).1 < 4096 := by
  unfold pil1
  split
  · exact dif_lt (n := 12) h
  · exact h
theorem pil1_t {w : Nat → Nat} {q : Nat} {y : PiT} (h : y.1 < 4096) {i : Nat} : (pil1 w q y).1.testBit i = true ↔ (y.1.testBit i = true ∧ ¬ (i = q ∧ w q = 0)) := by
  unfold pil1
  by_cases c : (y.1.testBit q && decide (w q = 0)) = true
  · rw [if_pos c]
    rw [Bool.and_eq_true, decide_eq_true_iff] at c
    show (dif y.1 (2 ^ q)).testBit i = true ↔ _
    rw [tb_dif1 h]
    constructor
    · rintro ⟨a, b⟩; exact ⟨a, fun z => b z.1⟩
    · rintro ⟨a, b⟩; exact ⟨a, fun z => b ⟨z, c.2⟩⟩
  · rw [if_neg c]
    rw [Bool.and_eq_true, decide_eq_true_iff] at c
    constructor
    · intro a
      refine ⟨a, ?_⟩
      rintro ⟨rfl, b⟩
      exact c ⟨a, b⟩
    · exact fun a => a.1
theorem pil1_c {w : Nat → Nat} {q : Nat} {y : PiT} (h : y.1 < 4096) : (pil1 w q y).2.1 + pc (pil1 w q y).1 12 = y.2.1 + pc y.1 12 := by
  unfold pil1
  by_cases c : (y.1.testBit q && decide (w q = 0)) = true
  · rw [if_pos c]
    rw [Bool.and_eq_true, decide_eq_true_iff] at c
    show y.2.1 + 1 + pc (dif y.1 (2 ^ q)) 12 = _
    have := pc_tip h c.1
    omega
  · rw [if_neg c]
theorem pil1_f {w : Nat → Nat} {q : Nat} {y : PiT} (hq : q < 12) (h : ∀ i, i < y.2.1 → y.2.2 i < 12) : ∀ i, i < (pil1 w q y).2.1 → (pil1 w q y).2.2 i < 12 := by
  unfold pil1
  by_cases c : (y.1.testBit q && decide (w q = 0)) = true
  · rw [if_pos c]
    intro i hi
    have hi : i < y.2.1 + 1 := hi
    show (if i = y.2.1 then q else y.2.2 i) < 12
    split
    · exact hq
    · exact h i (by omega)
  · rw [if_neg c]; exact h
theorem pilF_ok {w : Nat → Nat} : ∀ (q : Nat) (y : PiT), q ≤ 12 → y.1 < 4096 → (∀ i, i < y.2.1 → y.2.2 i < 12) →
    (∀ i, (pilF w q y).1.testBit i = true ↔ (y.1.testBit i = true ∧ ¬ (i < q ∧ w i = 0))) ∧ (pilF w q y).2.1 + pc (pilF w q y).1 12 = y.2.1 + pc y.1 12 ∧ (∀ i, i < (pilF w q y).2.1 → (pilF w q y).2.2 i < 12) := by
  intro q
  induction q with
  | zero => intro y _ h1 h2; exact ⟨fun i => ⟨fun a => ⟨a, fun z => absurd z.1 (by omega)⟩, fun a => a.1⟩, rfl, h2⟩
  | succ q ih =>
    intro y hq h1 h2
    obtain ⟨a, b, c⟩ := ih (pil1 w q y) (by omega) (pil1_lt h1) (pil1_f (by omega) h2)
    refine ⟨fun i => ?_, by rw [pilF, b, pil1_c h1], c⟩
    rw [pilF, a i, pil1_t h1]
    constructor
    · rintro ⟨⟨x, y1⟩, z⟩
      refine ⟨x, fun u => ?_⟩
      by_cases e : i = q
      · subst e; exact y1 ⟨rfl, u.2⟩
      · exact z ⟨by omega, u.2⟩
    · rintro ⟨x, z⟩
      refine ⟨⟨x, fun u => ?_⟩, fun u => z ⟨by omega, u.2⟩⟩
      obtain ⟨rfl, u⟩ := u
      exact z ⟨by omega, u⟩
abbrev DT : Type := (Nat × (Nat → Nat)) × (Nat × Nat) × (Nat × (Nat → Nat))
abbrev DT.S (x : DT) : Nat := x.1.1
abbrev DT.w (x : DT) : Nat → Nat := x.1.2
abbrev DT.D (x : DT) : Nat := x.2.1.1
abbrev DT.U (x : DT) : Nat := x.2.1.2
abbrev DT.c (x : DT) : Nat := x.2.2.1
abbrev DT.f (x : DT) : Nat → Nat := x.2.2.2
noncomputable def rgD (B : Nat → Nat → Nat) (S : Nat) : Nat := Classical.epsilon (thn (isR B) B S)
noncomputable def coD (B : Nat → Nat → Nat) (S : Nat) : Nat := Classical.epsilon (core B S)
theorem rgD_eq {B : Nat → Nat → Nat} {S r : Nat} (h : thn (isR B) B S r) : r = rgD B S := thn_uni h (Classical.epsilon_spec ⟨r, h⟩)
theorem coD_eq {B : Nat → Nat → Nat} {S T : Nat} (h : core B S T) : T = coD B S := core_uni h (Classical.epsilon_spec ⟨T, h⟩)
/-- the point that is first without weight -/
noncomputable def piv (B : Nat → Nat → Nat) (T : Nat) (w : Nat → Nat) : Nat := (mn (cS T (rgD B T)) w (cO B T (rgD B T)) 12).getD 0
noncomputable def nwD (B : Nat → Nat → Nat) (T : Nat) (w : Nat → Nat) : Nat → Nat := dW (cS T (rgD B T)) (cO B T (rgD B T)) (piv B T w) w
noncomputable def stD (B : Nat → Nat → Nat) (T : Nat) (x : DT) : DT :=
  (((pilF (nwD B T x.w) 12 (T, x.2.2)).1, nwD B T x.w), (x.D * cO B T (rgD B T) (piv B T x.w), x.U * cO B T (rgD B T) (piv B T x.w) + x.w (piv B T x.w) * cM B T (rgD B T)), (pilF (nwD B T x.w) 12 (T, x.2.2)).2)
noncomputable def rnD (B : Nat → Nat → Nat) : Nat → DT → DT
  | 0, x => x
  | k + 1, x => if coD B x.S = 0 then ((0, x.w), x.2) else rnD B k (stD B (coD B x.S) x)
theorem rnD_0 {B : Nat → Nat → Nat} {k : Nat} {x : DT} (h : coD B x.S = 0) : rnD B (k + 1) x = ((0, x.w), x.2) := by rw [rnD, if_pos h]
theorem rnD_s {B : Nat → Nat → Nat} {k : Nat} {x : DT} (h : coD B x.S ≠ 0) : rnD B (k + 1) x = rnD B k (stD B (coD B x.S) x) := by rw [rnD, if_neg h]
/-- what stays of the pile -/
noncomputable def rvD (B : Nat → Nat → Nat) (h : Nat) (f : Nat → Nat) : Nat → Nat → Nat
  | 0, s => s
  | k + 1, s => rvD B h f k (if fB B (dif h (dif s (2 ^ f k))) = true then dif s (2 ^ f k) else s)
def orD (f : Nat → Nat) : Nat → Nat
  | 0 => 0
  | k + 1 => orD f k ||| 2 ^ f k
noncomputable def begD (N : NT) : DT := ((N.here, N.wt), (1, 0), (0, fun _ => 0))
noncomputable def endD (N : NT) : DT := rnD N.bt 13 (begD N)
noncomputable def nearD (N : NT) : Nat := rvD N.bt N.here (endD N).f (endD N).c (orD (endD N).f (endD N).c)
/-- how large it all can be -/
def dInv (N : NT) (x : DT) : Prop := subS x.S N.here ∧ 0 < x.D ∧ x.D * x.D * 2 ^ eS N.bt x.S ≤ 2 ^ 40 ∧ (∀ i, x.S.testBit i = true → x.w i ≤ 9 * x.D) ∧ x.U + 180 * pc x.S 12 * x.D ≤ 2160 * x.D ∧ x.c + pc x.S 12 ≤ 12 ∧ ∀ i, i < x.c → x.f i < 12
theorem eS_mono {B : Nat → Nat → Nat} {S T : Nat} (h : subS T S) : eS B T ≤ eS B S := sm_mono _ (fun i _ => by
  show bI (T.testBit i) * dS B T i ≤ bI (S.testBit i) * dS B S i
  cases e : T.testBit i with
  | false => rw [bI_f, Nat.zero_mul]; exact Nat.zero_le _
  | true => rw [h i e]; exact Nat.mul_le_mul_left _ (dS_mono h))
theorem dInv_lt {N : NT} {x : DT} (h : dInv N x) : x.D ≤ 2 ^ 20 := by
  rcases Nat.lt_or_ge (2 ^ 20) x.D with c | c
  · have h1 : (2 ^ 20 + 1) * (2 ^ 20 + 1) ≤ x.D * x.D := Nat.mul_le_mul c c
    have h2 : x.D * x.D * 1 ≤ x.D * x.D * 2 ^ eS N.bt x.S := Nat.mul_le_mul_left _ (Nat.two_pow_pos _)
    have h3 := h.2.2.1
    omega
  · exact c
theorem dInv_sub {N : NT} {x : DT} {T : Nat} (h : dInv N x) (hT : subS T x.S) : dInv N ((T, x.w), x.2) := by
  obtain ⟨h1, h2, h3, h4, h5, h6, h7⟩ := h
  have hp := pc_sub hT
  refine ⟨subS_tr hT h1, h2, Nat.le_trans (Nat.mul_le_mul_left _ (Nat.pow_le_pow_right (by decide) (eS_mono hT))) h3, fun i hi => h4 i (hT i hi), ?_, ?_, h7⟩
  · exact Nat.le_trans (Nat.add_le_add_left (Nat.mul_le_mul_right _ (Nat.mul_le_mul_left _ hp)) _) h5
  · show x.c + pc T 12 ≤ 12
    omega
/-- what is known of a step -/
theorem stD_facts {N : NT} (hw : wf N) {T r : Nat} {w : Nat → Nat} (hT : subS T N.here) (h0 : T ≠ 0) (hb : bzy N.bt T) (hr : thn (isR N.bt) N.bt T r) :
    ∃ p, mn (cS T r) w (cO N.bt T r) 12 = some p ∧ piv N.bt T w = p ∧ p < 12 ∧ T.testBit p = true ∧ (cS T r).testBit p = true ∧ subS (cS T r) T ∧ (∀ i, T.testBit i = true → 1 ≤ cO N.bt T r i ∧ cO N.bt T r i ≤ 5) ∧ cM N.bt T r ≤ 20 ∧ (∀ i, (cS T r).testBit i = true → w p * cO N.bt T r i ≤ w i * cO N.bt T r p) ∧ pc T 12 ≤ eS N.bt T / 2 := by
  have hT4 := subS_lt hT hw.h4096
  have hrg := rgD_eq hr
  have hC0 : cS T r ≠ 0 ∧ subS (cS T r) T := by
    unfold cS
    by_cases c : r = 0
    · rw [if_pos c]; exact ⟨h0, fun _ h => h⟩
    · rw [if_neg c]
      rcases hr with ⟨a, -⟩ | ⟨-, a, -⟩
      · exact absurd a c
      · exact ⟨c, a⟩
  have hC4 := subS_lt hC0.2 hT4
  obtain ⟨l1, l2, -⟩ := lo_all _ hC4 hC0.1
  obtain ⟨p, hp⟩ := mn_ex (w := w) (o := cO N.bt T r) l2 12 l1
  have hO : ∀ i, T.testBit i = true → 1 ≤ cO N.bt T r i ∧ cO N.bt T r i ≤ 5 := by
    intro i hi
    have h1 := hb i hi
    have h2 := dS_dg (B := N.bt) T i
    have h3 := hw.2.2.2.2.2.2.2 i (tb_lt (n := 12) hi hT4)
    unfold cO
    split <;> omega
  obtain ⟨p1, p2, p3⟩ := mn_ok (fun i hi => (hO i (hC0.2 i hi)).1) 12 p hp
  have he2 : pc T 12 + pc T 12 ≤ eS N.bt T := by
    have := sm_mono (f := fun i => bI (T.testBit i) + bI (T.testBit i)) (g := fun i => bI (T.testBit i) * dS N.bt T i) 12 (fun i _ => by
      show bI (T.testBit i) + bI (T.testBit i) ≤ bI (T.testBit i) * dS N.bt T i
      cases e : T.testBit i with
      | false => simp [bI]
      | true => have := hb i e; simp only [bI_t, Nat.one_mul]; omega)
    rw [sm_add] at this
    exact this
  have he1 : eS N.bt T ≤ 41 := by
    have h1 := eS_mono (B := N.bt) (S := 4095) (T := T) (fun i hi => tb4095 i (tb_lt (n := 12) hi hT4))
    have h2 := eS_all hw.2.2.2.2.1
    have h3 := hw.2.2.2.2.2.2.1
    omega
  refine ⟨p, hp, ?_, p1, hC0.2 p p2, p2, hC0.2, hO, ?_, fun i hi => p3 i (tb_lt (n := 12) hi hC4) hi, by omega⟩
  · unfold piv
    rw [← hrg, hp]; rfl
  · have := CC_le N.bt T
    unfold cM
    split <;> omega
theorem sq_all : ∀ d, d < 7 → (d - 1) * (d - 1) ≤ 2 ^ d := by decide
theorem dInv_step {N : NT} (hw : wf N) {x : DT} {r : Nat} (h : dInv N x) (h0 : x.S ≠ 0) (hb : bzy N.bt x.S) (hr : thn (isR N.bt) N.bt x.S r) : dInv N (stD N.bt x.S x) ∧ pc (stD N.bt x.S x).S 12 < pc x.S 12 := by
  obtain ⟨h1, h2, h3, h4, h5, h6, h7⟩ := h
  have hS4 := subS_lt h1 hw.h4096
  obtain ⟨p, e1, e2, e3, e4, e5, e6, e7, e8, e9, -⟩ := stD_facts hw (w := x.w) h1 h0 hb hr
  have hrg := rgD_eq hr
  obtain ⟨q1, q2, q3⟩ := pilF_ok (w := nwD N.bt x.S x.w) 12 (x.S, x.2.2) (Nat.le_refl _) hS4 h7
  have hnw : ∀ i, nwD N.bt x.S x.w i = dW (cS x.S r) (cO N.bt x.S r) p x.w i := by
    intro i
    unfold nwD
    rw [← hrg, e2]
  have hz : nwD N.bt x.S x.w p = 0 := by
    rw [hnw]
    unfold dW
    rw [if_pos e5, Nat.sub_self]
  have hsub : subS (pilF (nwD N.bt x.S x.w) 12 (x.S, x.2.2)).1 (dif x.S (2 ^ p)) := by
    intro i hi
    obtain ⟨a, b⟩ := (q1 i).mp hi
    refine (tb_dif1 hS4).mpr ⟨a, ?_⟩
    rintro rfl
    exact b ⟨e3, hz⟩
  have hpc := pc_sub hsub
  have hpt := pc_tip hS4 e4
  have hop := e7 p e4
  have hwp := h4 p e4
  have hst : stD N.bt x.S x = (((pilF (nwD N.bt x.S x.w) 12 (x.S, x.2.2)).1, nwD N.bt x.S x.w), (x.D * cO N.bt x.S r p, x.U * cO N.bt x.S r p + x.w p * cM N.bt x.S r), (pilF (nwD N.bt x.S x.w) 12 (x.S, x.2.2)).2) := by
    unfold stD
    rw [← hrg, e2]
  rw [hst]
  refine ⟨⟨subS_tr hsub (subS_tr (dif_sub hS4) h1), Nat.mul_pos h2 hop.1, ?_, ?_, ?_, ?_, q3⟩, ?_⟩
  · show x.D * cO N.bt x.S r p * (x.D * cO N.bt x.S r p) * 2 ^ eS N.bt (pilF (nwD N.bt x.S x.w) 12 (x.S, x.2.2)).1 ≤ 2 ^ 40
    have m1 := eS_mono (B := N.bt) hsub
    have m2 := eS_out hw.2.2.2.2.1 hS4 e4
    have m3 := (dS_nb (B := N.bt) (p := p) hS4 e4).2 rfl
    have m4 := dS_dg (B := N.bt) x.S p
    have m5 := hw.2.2.2.2.2.2.2 p e3
    have m6 : cO N.bt x.S r p * cO N.bt x.S r p ≤ 2 ^ dS N.bt x.S p := by
      unfold cO
      split
      · exact sq_all _ (by omega)
      · exact Nat.two_pow_pos _
    calc x.D * cO N.bt x.S r p * (x.D * cO N.bt x.S r p) * 2 ^ eS N.bt (pilF (nwD N.bt x.S x.w) 12 (x.S, x.2.2)).1
        = x.D * x.D * ((cO N.bt x.S r p * cO N.bt x.S r p) * 2 ^ eS N.bt (pilF (nwD N.bt x.S x.w) 12 (x.S, x.2.2)).1) := by
          rw [Nat.mul_mul_mul_comm, Nat.mul_assoc]
      _ ≤ x.D * x.D * (2 ^ dS N.bt x.S p * 2 ^ eS N.bt (pilF (nwD N.bt x.S x.w) 12 (x.S, x.2.2)).1) := Nat.mul_le_mul_left _ (Nat.mul_le_mul_right _ m6)
      _ = x.D * x.D * 2 ^ (dS N.bt x.S p + eS N.bt (pilF (nwD N.bt x.S x.w) 12 (x.S, x.2.2)).1) := by rw [Nat.pow_add]
      _ ≤ x.D * x.D * 2 ^ eS N.bt x.S := Nat.mul_le_mul_left _ (Nat.pow_le_pow_right (by decide) (by omega))
      _ ≤ 2 ^ 40 := h3
  · intro i hi
    have hi := ((q1 i).mp hi).1
    show nwD N.bt x.S x.w i ≤ 9 * (x.D * cO N.bt x.S r p)
    rw [hnw]
    have h9 : x.w i * cO N.bt x.S r p ≤ 9 * (x.D * cO N.bt x.S r p) := by
      rw [← Nat.mul_assoc]
      exact Nat.mul_le_mul_right _ (h4 i hi)
    unfold dW
    split
    · exact Nat.le_trans (Nat.sub_le _ _) h9
    · exact h9
  · show x.U * cO N.bt x.S r p + x.w p * cM N.bt x.S r + 180 * pc (pilF (nwD N.bt x.S x.w) 12 (x.S, x.2.2)).1 12 * (x.D * cO N.bt x.S r p) ≤ 2160 * (x.D * cO N.bt x.S r p)
    have m1 : x.w p * cM N.bt x.S r ≤ 180 * (x.D * cO N.bt x.S r p) := by
      have a1 : x.w p * cM N.bt x.S r ≤ 9 * x.D * 20 := Nat.mul_le_mul hwp e8
      have a2 : x.D * 1 ≤ x.D * cO N.bt x.S r p := Nat.mul_le_mul_left _ hop.1
      omega
    have m2 : (x.U + 180 * pc x.S 12 * x.D) * cO N.bt x.S r p ≤ 2160 * x.D * cO N.bt x.S r p := Nat.mul_le_mul_right _ h5
    rw [Nat.add_mul, Nat.mul_assoc _ x.D, Nat.mul_assoc _ x.D] at m2
    generalize x.D * cO N.bt x.S r p = Y at m1 m2 ⊢
    have m3 : 180 * (pc (pilF (nwD N.bt x.S x.w) 12 (x.S, x.2.2)).1 12 + 1) * Y ≤ 180 * pc x.S 12 * Y := Nat.mul_le_mul_right _ (Nat.mul_le_mul_left _ (by omega))
    rw [Nat.mul_add, Nat.add_mul] at m3
    omega
  · show (pilF (nwD N.bt x.S x.w) 12 (x.S, x.2.2)).2.1 + pc (pilF (nwD N.bt x.S x.w) 12 (x.S, x.2.2)).1 12 ≤ 12
    rw [q2]; exact h6
  · show pc (pilF (nwD N.bt x.S x.w) 12 (x.S, x.2.2)).1 12 < pc x.S 12
    omega
theorem dInv_beg {N : NT} (hw : wf N) : dInv N (begD N) := by
  have h1 := hw.2.2.2.2.2.2.1
  have h2 := eS_all hw.2.2.2.2.1
  have h3 := eS_mono (B := N.bt) (S := 4095) (T := N.here) (fun i hi => tb4095 i (tb_lt (n := 12) hi hw.h4096))
  have h4 := pc_le N.here 12
  refine ⟨fun _ h => h, Nat.one_pos, ?_, fun i hi => ?_, ?_, ?_, fun i hi => absurd hi (by show ¬ i < 0; omega)⟩
  · show 1 * 1 * 2 ^ eS N.bt N.here ≤ 2 ^ 40
    rw [Nat.one_mul]
    exact Nat.le_trans (Nat.pow_le_pow_right (by decide) h3) (Nat.pow_le_pow_right (by decide) (by
      have : eS N.bt 4095 % 2 = 0 := by
        have := tri hw.2.2.2.2.1 12
        have h5 : eS N.bt 4095 = sm (fun i => N.bt i i + sm (fun j => N.bt i j) 12) 12 := by
          unfold eS
          exact sm_congr _ (fun i hi => by rw [tb4095 i hi, bI_t, Nat.one_mul, dS_all]; rfl)
        omega
      omega))
  · show N.wt i ≤ 9 * 1
    have := (hw.2.2.2.1 i (here_told hw hi)).2
    omega
  · show 0 + 180 * pc N.here 12 * 1 ≤ 2160 * 1
    omega
  · show 0 + pc N.here 12 ≤ 12
    omega
