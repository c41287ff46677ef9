/-! CHAINS: sets none of which lies within another are 924 at most -/
def scP (s : Nat) : Nat → Nat → Nat → Nat → Nat
  | 0, _, _, l => l
  | k + 1, n, d, l => if s.testBit n then (if d = 0 then scP s k (n + 1) 0 n else scP s k (n + 1) (d - 1) l) else scP s k (n + 1) (d + 1) l
def scN (s : Nat) : Nat → Nat → Nat → Nat
  | 0, _, l => l
  | n + 1, d, l => if s.testBit n then scN s n (d + 1) l else (if d = 0 then scN s n 0 n else scN s n (d - 1) l)
def pv (s : Nat) : Nat := (fun l => if l = 12 then s else dif s (2 ^ l)) (scP s 12 0 0 12)
def nx (s : Nat) : Nat := (fun l => if l = 12 then s else s ||| 2 ^ l) (scN s 12 0 12)
def bt : Nat → Nat → Nat
  | 0, s => s
  | k + 1, s => bt k (pv s)
def nxk : Nat → Nat → Nat
  | 0, s => s
  | k + 1, s => nx (nxk k s)
theorem pv_all : ∀ s, s < 4096 → (pv s = s ∨ (nx (pv s) = s ∧ pc (pv s) 12 < pc s 12)) ∧ pv s < 4096 ∧ nx s < 4096 ∧ s &&& nx s = s := all12 (by decide +kernel)
theorem bt_pv : ∀ k s, s < 4096 → pc s 12 ≤ k → pv (bt k s) = bt k s := by
  intro k
  induction k with
  | zero =>
    intro s h hk
    rcases (pv_all s h).1 with e | ⟨-, e⟩
    · exact e
    · omega
  | succ k ih =>
    intro s h hk
    obtain ⟨h1, h2, -, -⟩ := pv_all s h
    rcases h1 with e | ⟨-, e⟩
    · have : ∀ j, bt j s = s := by
        intro j
        induction j with
        | zero => rfl
        | succ j jh => rw [bt, e, jh]
      rw [this, e]
    · exact ih (pv s) h2 (by omega)
theorem bt_all (s : Nat) (h : s < 4096) : pv (bt 12 s) = bt 12 s := bt_pv 12 s h (pc_le s 12)
def rk (s : Nat) : Nat := sm (fun a => sm (fun b => bI (decide (64 * a + b < s) && decide (pv (64 * a + b) = 64 * a + b))) 64) 64
theorem rk_max : rk 4096 = 924 := by decide +kernel
theorem sm_lt {f g : Nat → Nat} {k n : Nat} (h : ∀ i, i < n → f i ≤ g i) (hk : k < n) (hlt : f k < g k) : sm f n < sm g n := by
  induction n with
  | zero => omega
  | succ n ih =>
    rw [sm, sm]
    have h1 := h n (by omega)
    by_cases e : k = n
    · subst e
      have := sm_mono (f := f) (g := g) k (fun i hi => h i (by omega))
      omega
    · have := ih (fun i hi => h i (by omega)) (by omega)
      omega
theorem rk_lt {s t : Nat} (hs : s < 4096) (hp : pv s = s) (hst : s < t) : rk s < rk t := by
  have hle : ∀ a b, bI (decide (64 * a + b < s) && decide (pv (64 * a + b) = 64 * a + b)) ≤ bI (decide (64 * a + b < t) && decide (pv (64 * a + b) = 64 * a + b)) := by
    intro a b
    by_cases h : 64 * a + b < s
    · rw [decide_eq_true h, decide_eq_true (show 64 * a + b < t by omega)]; exact Nat.le_refl _
    · rw [decide_eq_false h]; exact Nat.zero_le _
  unfold rk
  apply sm_lt (k := s / 64)
  · intro a _
    exact sm_mono _ (fun b _ => hle a b)
  · omega
  · apply sm_lt (k := s % 64)
    · intro b _
      exact hle _ b
    · omega
    · rw [Nat.div_add_mod, decide_eq_false (Nat.lt_irrefl s), decide_eq_true hst, decide_eq_true hp]
      decide
theorem rk_inj {s t : Nat} (hs : s < 4096) (ht : t < 4096) (hps : pv s = s) (hpt : pv t = t) (h : rk s = rk t) : s = t := by
  rcases Nat.lt_trichotomy s t with c | c | c
  · have := rk_lt hs hps c; omega
  · exact c
  · have := rk_lt ht hpt c; omega
theorem bt_lt : ∀ k s, s < 4096 → bt k s < 4096 := by
  intro k
  induction k with
  | zero => intro s h; exact h
  | succ k ih => intro s h; exact ih _ (pv_all s h).2.1
theorem bt_nx : ∀ k s, s < 4096 → ∃ j, s = nxk j (bt k s) := by
  intro k
  induction k with
  | zero => intro s h; exact ⟨0, rfl⟩
  | succ k ih =>
    intro s h
    obtain ⟨h1, h2, -, -⟩ := pv_all s h
    obtain ⟨j, hj⟩ := ih (pv s) h2
    rcases h1 with e | ⟨e, -⟩
    · rw [e] at hj
      exact ⟨j, by rw [bt, e]; exact hj⟩
    · refine ⟨j + 1, ?_⟩
      rw [bt, nxk, ← hj, e]
theorem nxk_lt : ∀ j s, s < 4096 → nxk j s < 4096 := by
  intro j
  induction j with
  | zero => intro s h; exact h
  | succ j ih => intro s h; exact (pv_all _ (ih s h)).2.2.1
theorem nxk_sub : ∀ i j s, s < 4096 → subS (nxk i s) (nxk (i + j) s) := by
  intro i j
  induction j with
  | zero => intro s _ x h; exact h
  | succ j ih =>
    intro s hs
    have h1 := (pv_all _ (nxk_lt (i + j) s hs)).2.2.2
    exact subS_tr (ih s hs) (sub_and.mp h1)
theorem chain_cmp {a b : Nat} (ha : a < 4096) (hb : b < 4096) (h : rk (bt 12 a) = rk (bt 12 b)) : subS a b ∨ subS b a := by
  have e := rk_inj (bt_lt 12 a ha) (bt_lt 12 b hb) (bt_all a ha) (bt_all b hb) h
  obtain ⟨i, hi⟩ := bt_nx 12 a ha
  obtain ⟨j, hj⟩ := bt_nx 12 b hb
  rw [← e] at hj
  have hl := bt_lt 12 a ha
  rcases Nat.le_total i j with c | c
  · left
    rw [hi, hj, show j = i + (j - i) by omega]
    exact nxk_sub _ _ _ hl
  · right
    rw [hi, hj, show i = j + (i - j) by omega]
    exact nxk_sub _ _ _ hl
theorem pigeon : ∀ (m L : Nat) (f : Nat → Nat), (∀ i, i < L → f i < m) → (∀ i j, i < L → j < L → f i = f j → i = j) → L ≤ m := by
  intro m
  induction m with
  | zero =>
    intro L f h _
    rcases Nat.eq_zero_or_pos L with c | c
    · omega
    · have := h 0 c; omega
  | succ m ih =>
    intro L f h1 h2
    by_cases e : ∃ i, i < L ∧ f i = m
    · obtain ⟨i0, hi0, he⟩ := e
      have := ih (L - 1) (fun i => if i = i0 then f (L - 1) else f i) (fun i hi => by
        show (if i = i0 then f (L - 1) else f i) < m
        by_cases c : i = i0
        · rw [if_pos c]
          have h3 := h1 (L - 1) (by omega)
          have h4 : f (L - 1) ≠ m := fun q => by
            have := h2 (L - 1) i0 (by omega) hi0 (by rw [q, he])
            omega
          omega
        · rw [if_neg c]
          have h3 := h1 i (by omega)
          have h4 : f i ≠ m := fun q => c (h2 i i0 (by omega) hi0 (by rw [q, he]))
          omega) (fun i j hi hj hij => by
        have hij : (if i = i0 then f (L - 1) else f i) = (if j = i0 then f (L - 1) else f j) := hij
        by_cases c : i = i0
        · by_cases d : j = i0
          · omega
          · rw [if_pos c, if_neg d] at hij
            have := h2 _ _ (by omega) (by omega) hij
            omega
        · by_cases d : j = i0
          · rw [if_neg c, if_pos d] at hij
            have := h2 _ _ (by omega) (by omega) hij
            omega
          · rw [if_neg c, if_neg d] at hij
            exact h2 _ _ (by omega) (by omega) hij)
      omega
    · have := ih L f (fun i hi => by
        have h3 := h1 i hi
        have h4 : f i ≠ m := fun q => e ⟨i, hi, q⟩
        omega) h2
      omega
/-- sets none of which lies within another -/
theorem sperner {L : Nat} {f : Nat → Nat} (h1 : ∀ i, i < L → f i < 4096) (h2 : ∀ i j, i < L → j < L → subS (f i) (f j) → i = j) : L ≤ 924 := by
  refine pigeon 924 L (fun i => rk (bt 12 (f i))) (fun i hi => ?_) (fun i j hi hj hij => ?_)
  · have := rk_lt (bt_lt 12 _ (h1 i hi)) (bt_all _ (h1 i hi)) (bt_lt 12 _ (h1 i hi))
    rw [rk_max] at this
    exact this
  · rcases chain_cmp (h1 i hi) (h1 j hj) hij with c | c
    · exact h2 i j hi hj c
    · exact (h2 j i hj hi c).symm
