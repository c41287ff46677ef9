/-! NETS: what a net's cells hold; sums over lines -/
theorem nI_addsub {a m o : Nat} (h : o ≤ a + m) (hb : a + m < 2 ^ 31) : nI a + (nI m - nI o) = nI (a + m - o) := by
  apply Int32.toBitVec_inj.mp
  apply BitVec.eq_of_toNat_eq
  simp [nI]
  omega
theorem nI_sub {a b : Nat} (h : b ≤ a) : nI a - nI b = nI (a - b) := pk_sub h
/-- cells outside [a, b) are as they were -/
def fr (σ σ' : GM) (a b : Nat) : Prop := ∀ m, (m < a ∨ b ≤ m) → σ'.1 m = σ.1 m ∧ σ'.2 m = σ.2 m
theorem fr.rf (σ : GM) (a b : Nat) : fr σ σ a b := fun _ _ => ⟨rfl, rfl⟩
theorem fr.trans {σ1 σ2 σ3 : GM} {a b : Nat} (h : fr σ1 σ2 a b) (g : fr σ2 σ3 a b) : fr σ1 σ3 a b := fun m hm => ⟨(g m hm).1.trans (h m hm).1, (g m hm).2.trans (h m hm).2⟩
theorem fr.wide {σ1 σ2 : GM} {a b c d : Nat} (h : fr σ1 σ2 a b) (h1 : c ≤ a) (h2 : b ≤ d) : fr σ1 σ2 c d := fun m hm => h m (by omega)
theorem fr_wI {σ : GM} {n k a b : Nat} {v : Int32} (h1 : a ≤ n) (h2 : n < b) : fr σ (wI σ n k v) a b := fun m hm => wI_other m (by omega)
theorem fr_wL {σ : GM} {n k a b : Nat} {v : Int64} (h1 : a ≤ n) (h2 : n < b) : fr σ (wL σ n k v) a b := fun m hm => wL_other m (by omega)
theorem wI_1 (σ : GM) (n k m i : Nat) (v : Int32) : (wI σ n k v).1 m i = if m = n ∧ i = k then v else σ.1 m i := rfl
theorem wI_2 (σ : GM) (n k : Nat) (v : Int32) : (wI σ n k v).2 = σ.2 := rfl
theorem wL_1 (σ : GM) (n k : Nat) (v : Int64) : (wL σ n k v).1 = σ.1 := rfl
theorem wL_2 (σ : GM) (n k m i : Nat) (v : Int64) : (wL σ n k v).2 m i = if m = n ∧ i = k then v else σ.2 m i := rfl
theorem sm_upd {f g : Nat → Nat} {k n : Nat} (hk : k < n) (h : ∀ i, i < n → i ≠ k → f i = g i) : sm f n + g k = sm g n + f k := by
  induction n with
  | zero => omega
  | succ n ih =>
    rw [sm, sm]
    by_cases e : k = n
    · subst e
      rw [sm_congr (g := g) k (fun i hi => h i (by omega) (by omega))]
      omega
    · have h1 := ih (by omega) (fun i hi hne => h i (by omega) hne)
      have h2 := h n (by omega) (Ne.symm e)
      omega
/-- lines of a net: each pair once -/
def lcB (B : Nat → Nat → Nat) : Nat := sm (fun i => sm (fun j => B i j) (i + 1)) 12
def setB (B : Nat → Nat → Nat) (a b m : Nat) : Nat → Nat → Nat := fun i j => if (i = a ∧ j = b) ∨ (i = b ∧ j = a) then m else B i j
def symB (B : Nat → Nat → Nat) : Prop := ∀ i j, B i j = B j i
theorem setB_sym {B : Nat → Nat → Nat} {a b m : Nat} (h : symB B) : symB (setB B a b m) := by
  intro i j
  unfold setB
  rw [h i j]
  by_cases c : (i = a ∧ j = b) ∨ (i = b ∧ j = a)
  · rw [if_pos c, if_pos (by omega)]
  · rw [if_neg c, if_neg (by omega)]
theorem lcB_set' {B : Nat → Nat → Nat} {a b m : Nat} (hab : b ≤ a) (ha : a < 12) (hs : symB B) : lcB (setB B a b m) + B a b = lcB B + m := by
  have h1 : ∀ i, i < 12 → i ≠ a → sm (fun j => setB B a b m i j) (i + 1) = sm (fun j => B i j) (i + 1) := by
    intro i hi hne
    apply sm_congr
    intro j hj
    unfold setB
    rw [if_neg (by omega)]
  have h2 := sm_upd (f := fun i => sm (fun j => setB B a b m i j) (i + 1)) (g := fun i => sm (fun j => B i j) (i + 1)) ha h1
  have h3 := sm_upd (f := fun j => setB B a b m a j) (g := fun j => B a j) (k := b) (n := a + 1) (by omega) (fun j hj hne => by
    show setB B a b m a j = B a j
    unfold setB
    rw [if_neg (by omega)])
  have h4 : setB B a b m a b = m := by unfold setB; rw [if_pos (by omega)]
  unfold lcB
  rw [h4] at h3
  omega
theorem setB_swap {B : Nat → Nat → Nat} {a b m : Nat} : setB B a b m = setB B b a m := by
  funext i j
  unfold setB
  by_cases c : (i = a ∧ j = b) ∨ (i = b ∧ j = a)
  · rw [if_pos c, if_pos (by omega)]
  · rw [if_neg c, if_neg (by omega)]
theorem lcB_set {B : Nat → Nat → Nat} {a b : Nat} (m : Nat) (ha : a < 12) (hb : b < 12) (hs : symB B) : lcB (setB B a b m) + B a b = lcB B + m := by
  rcases Nat.le_total b a with h | h
  · exact lcB_set' h ha hs
  · rw [setB_swap, hs a b]
    exact lcB_set' h hb hs
theorem lcB_ge {B : Nat → Nat → Nat} {a b : Nat} (ha : a < 12) (hb : b < 12) (hs : symB B) : B a b ≤ lcB B := by
  have := lcB_set 0 ha hb hs
  omega
/-- ends at a point -/
def dgB (B : Nat → Nat → Nat) (i : Nat) : Nat := B i i + sm (fun j => B i j) 12
/-- a good net -/
def wf (N : NT) : Prop :=
  N.told ≤ 12 ∧ N.here < 2 ^ N.told ∧ N.gone < 4096 ∧ (∀ i, i < N.told → 1 ≤ N.wt i ∧ N.wt i ≤ 9) ∧ symB N.bt ∧ (∀ i j, N.bt i j ≠ 0 → N.here.testBit i = true ∧ N.here.testBit j = true) ∧ lcB N.bt ≤ 20 ∧ ∀ i, i < 12 → dgB N.bt i ≤ 6
theorem wf.h4096 {N : NT} (h : wf N) : N.here < 4096 := Nat.lt_of_lt_of_le h.2.1 (Nat.pow_le_pow_right (by decide) h.1)
theorem tb_lt {s i n : Nat} (h : s.testBit i = true) (hs : s < 2 ^ n) : i < n := by
  rcases Nat.lt_or_ge i n with c | c
  · exact c
  · rw [Nat.testBit_lt_two_pow (Nat.lt_of_lt_of_le hs (Nat.pow_le_pow_right (by decide) c))] at h
    cases h
theorem wf.b20 {N : NT} (h : wf N) (i j : Nat) : N.bt i j ≤ 20 := by
  by_cases c : N.bt i j = 0
  · omega
  · obtain ⟨h1, h2⟩ := h.2.2.2.2.2.1 i j c
    have e1 := tb_lt (n := 12) h1 h.h4096
    have e2 := tb_lt (n := 12) h2 h.h4096
    have := lcB_ge e1 e2 h.2.2.2.2.1
    have := h.2.2.2.2.2.2.1
    omega
theorem wf.b0 {N : NT} (h : wf N) {i j : Nat} (hn : N.here.testBit i = false ∨ N.here.testBit j = false) : N.bt i j = 0 := by
  by_cases c : N.bt i j = 0
  · exact c
  · obtain ⟨h1, h2⟩ := h.2.2.2.2.2.1 i j c
    rcases hn with e | e
    · rw [h1] at e; cases e
    · rw [h2] at e; cases e
/-- the cells of the class's net at n -/
def netAt (σ : GM) (n : Nat) (N : NT) : Prop :=
  σ.1 n 2 = nI N.told ∧ σ.1 n 3 = nI N.here ∧ σ.1 n 4 = nI N.gone ∧ σ.1 n 5 = nI (lcB N.bt) ∧ (∀ i, i < N.told → σ.1 (n + 1) i = nI (N.wt i)) ∧ ptB σ n N.bt
theorem netAt.keep {σ σ' : GM} {n a b : Nat} {N : NT} (h : netAt σ n N) (hf : fr σ σ' a b) (hn : n + 3 ≤ a ∨ b ≤ n) : netAt σ' n N := by
  obtain ⟨h1, h2, h3, h4, h5, h6⟩ := h
  have e0 := (hf n (by omega)).1
  have e1 := (hf (n + 1) (by omega)).1
  have e2 := (hf (n + 2) (by omega)).1
  exact ⟨by rw [e0]; exact h1, by rw [e0]; exact h2, by rw [e0]; exact h3, by rw [e0]; exact h4, fun i hi => by rw [e1]; exact h5 i hi, fun i hi j hj => by rw [e2]; exact h6 i hi j hj⟩
def NT.setL (N : NT) (a b m : Nat) : NT := (N.1, N.2.1, setB N.bt a b m)
theorem setLines_at {σ : GM} {n : Nat} {N : NT} (h : netAt σ n N) (hs : symB N.bt) (hh : N.here < 4096) (hl : lcB N.bt ≤ 100) {a b m : Nat} (ha : a < 12) (hb : b < 12) (hm : m ≤ 100) (hta : N.here.testBit a = true) (htb : N.here.testBit b = true) :
    ∃ σ', f_X3_setLines σ n (nI a) (nI b) (nI m) = some σ' ∧ netAt σ' n (N.setL a b m) ∧ fr σ σ' n (n + 3) := by
  obtain ⟨h1, h2, h3, h4, h5, h6⟩ := h
  have hB := lcB_ge ha hb hs
  have hS := lcB_set m ha hb hs
  refine ⟨_, by
    unfold f_X3_setLines
    simp (discharger := omega) only [nm_v, i0, i12, i144, nI_add, pk_mul, h2, holds_at hh ha, holds_at hh hb, ob_s, hta, htb, bI_t, ceq, cle, if_neg, bnd_n, nI_clamp]
    rfl, ?_, ?_⟩
  · refine ⟨?_, ?_, ?_, ?_, ?_, ?_⟩
    · simp [wI_1, h1, NT.setL]
    · simp [wI_1, h2, NT.setL]
    · simp [wI_1, h3, NT.setL]
    · simp only [wI_1, NT.setL]
      simp only [show ¬ (n = n + 2) by omega, false_and, if_false, and_self, if_true]
      rw [h4, show a * 12 + b = 12 * a + b by omega, h6 a ha b hb, nI_addsub (by omega) (by omega)]
      congr 1
      show lcB N.bt + m - N.bt a b = lcB (setB N.bt a b m)
      omega
    · intro i hi
      simp only [wI_1, NT.setL]
      simp only [show ¬ (n + 1 = n + 2) by omega, show ¬ (n + 1 = n) by omega, false_and, if_false]
      exact h5 i hi
    · intro i hi j hj
      simp only [wI_1, NT.setL, true_and]
      simp only [show ¬ (n + 2 = n) by omega, false_and, if_false]
      show _ = nI (setB N.bt a b m i j)
      unfold setB
      by_cases c : (i = a ∧ j = b) ∨ (i = b ∧ j = a)
      · rw [if_pos c]
        rcases c with ⟨rfl, rfl⟩ | ⟨rfl, rfl⟩
        · by_cases e : 12 * i + j = j * 12 + i
          · rw [if_pos e]
          · rw [if_neg e, if_pos (by omega)]
        · rw [if_pos (by omega)]
      · rw [if_neg c, if_neg (by omega), if_neg (by omega)]
        exact h6 i hi j hj
  · exact ((fr_wI (by omega) (by omega)).trans (fr_wI (by omega) (by omega))).trans (fr_wI (by omega) (by omega))
