/-! NETS: taking points and lines away, adding lines -/
def inT (h : Nat) (v : Int32) : Bool := decide (¬ v < 0 ∧ ¬ nI 12 ≤ v) && h.testBit v.toNatClampNeg
theorem inT_n {h j : Nat} (hj : j < 12) : inT h (nI j) = h.testBit j := by
  unfold inT
  rw [nI_clamp (by omega), decide_eq_true (by rw [i0, clt (by omega) (by omega), cle (by omega) (by omega)]; omega), Bool.true_and]
theorem inT_lo {h : Nat} {v : Int32} (hv : v < 0) : inT h v = false := by
  unfold inT
  rw [decide_eq_false (fun q => q.1 hv), Bool.false_and]
theorem inT_hi {h : Nat} {v : Int32} (hv : nI 12 ≤ v) : inT h v = false := by
  unfold inT
  rw [decide_eq_false (fun q => q.2 hv), Bool.false_and]
theorem inT_true {h : Nat} {v : Int32} (hv : inT h v = true) : ∃ j, j < 12 ∧ v = nI j ∧ h.testBit j = true := by
  rcases pk_ix v (n := 12) (by omega) with e | e | ⟨j, hj, rfl⟩
  · rw [inT_lo e] at hv; cases hv
  · rw [inT_hi e] at hv; cases hv
  · rw [inT_n hj] at hv; exact ⟨j, hj, rfl, hv⟩
theorem holds_any {σ : GM} {s : Nat} (hs : s < 4096) (v : Int32) : f_X3_holds σ (nI s) v = some (nI (bI (inT s v))) := by
  rcases pk_ix v (n := 12) (by omega) with e | e | ⟨j, hj, rfl⟩
  · rw [inT_lo e]
    unfold f_X3_holds
    rw [if_pos e]; rfl
  · rw [inT_hi e]
    unfold f_X3_holds
    by_cases c : v < 0
    · rw [if_pos c]; rfl
    · rw [if_neg c, i12, if_pos e]; rfl
  · rw [inT_n hj, holds_at hs hj]
theorem isThere_any {σ : GM} {n s : Nat} (h : σ.1 n 3 = nI s) (hs : s < 4096) (v : Int32) : f_X3_isThere σ n v = some (nI (bI (inT s v))) := by
  unfold f_X3_isThere
  rw [h, holds_any hs, ob_s, nI_bIm]
theorem isThere_at {σ : GM} {n s : Nat} (h : σ.1 n 3 = nI s) (hs : s < 4096) {j : Nat} (hj : j < 12) : f_X3_isThere σ n (nI j) = some (nI (bI (s.testBit j))) := by
  rw [isThere_any h hs, inT_n hj]
theorem dgB_set1 {B : Nat → Nat → Nat} {a b : Nat} (m : Nat) (hb : b < 12) (hab : a ≠ b) : dgB (setB B a b m) a + B a b = dgB B a + m := by
  have h3 := sm_upd (f := fun j => setB B a b m a j) (g := fun j => B a j) (k := b) (n := 12) hb (fun j hj hne => by
    show setB B a b m a j = B a j
    unfold setB
    rw [if_neg (by omega)])
  have h4 : setB B a b m a b = m := by unfold setB; rw [if_pos (by omega)]
  have h5 : setB B a b m a a = B a a := by unfold setB; rw [if_neg (by omega)]
  rw [h4] at h3
  unfold dgB
  rw [h5]
  omega
theorem dgB_set2 {B : Nat → Nat → Nat} {a : Nat} (m : Nat) (ha : a < 12) : dgB (setB B a a m) a + 2 * B a a = dgB B a + 2 * m := by
  have h3 := sm_upd (f := fun j => setB B a a m a j) (g := fun j => B a j) (k := a) (n := 12) ha (fun j hj hne => by
    show setB B a a m a j = B a j
    unfold setB
    rw [if_neg (by omega)])
  have h4 : setB B a a m a a = m := by unfold setB; rw [if_pos (by omega)]
  rw [h4] at h3
  unfold dgB
  rw [h4]
  omega
theorem dgB_set0 {B : Nat → Nat → Nat} {a b i m : Nat} (hia : i ≠ a) (hib : i ≠ b) : dgB (setB B a b m) i = dgB B i := by
  unfold dgB
  rw [show setB B a b m i i = B i i by unfold setB; rw [if_neg (by omega)]]
  congr 1
  apply sm_congr
  intro j hj
  unfold setB
  rw [if_neg (by omega)]
theorem endsIn_here {σ : GM} {n : Nat} {N : NT} (h : netAt σ n N) (hw : wf N) {a : Nat} (ha : a < 12) : f_X3_endsIn σ n (nI a) (nI N.here) = some (nI (dgB N.bt a)) := by
  unfold f_X3_endsIn
  have h1 := h.2.2.2.2.2
  rw [linesOf_at h1 ha ha, ob_s]
  have h2 := endsIn_L h1 hw.b20 ha hw.h4096 (N.bt a a) (hw.b20 a a) 5000 0 (by omega) (by omega)
  rw [show sm (fun j => bI (N.here.testBit j) * N.bt a j) 0 = 0 from rfl, Nat.add_zero] at h2
  rw [i0, h2]
  congr 2
  unfold dgB
  congr 1
  apply sm_congr
  intro j hj
  cases e : N.here.testBit j with
  | true => simp [bI]
  | false => rw [hw.b0 (Or.inr e)]; simp
/-- all lines of a point, up to q -/
def remB (B : Nat → Nat → Nat) (p q : Nat) : Nat → Nat → Nat := fun i j => if (i = p ∧ j < q) ∨ (j = p ∧ i < q) then 0 else B i j
theorem remB_sym {B : Nat → Nat → Nat} {p q : Nat} (h : symB B) : symB (remB B p q) := by
  intro i j
  unfold remB
  rw [h i j]
  by_cases c : (i = p ∧ j < q) ∨ (j = p ∧ i < q)
  · rw [if_pos c, if_pos (by omega)]
  · rw [if_neg c, if_neg (by omega)]
theorem remB_le {B : Nat → Nat → Nat} (p q i j : Nat) : remB B p q i j ≤ B i j := by
  unfold remB; split <;> omega
theorem lcB_mono {B C : Nat → Nat → Nat} (h : ∀ i j, B i j ≤ C i j) : lcB B ≤ lcB C := sm_mono _ (fun i _ => sm_mono _ (fun j _ => h i j))
theorem dgB_mono {B C : Nat → Nat → Nat} (h : ∀ i j, B i j ≤ C i j) (i : Nat) : dgB B i ≤ dgB C i := Nat.add_le_add (h i i) (sm_mono _ (fun j _ => h i j))
theorem remB_step {B : Nat → Nat → Nat} {p q : Nat} : setB (remB B p q) p q 0 = remB B p (q + 1) := by
  funext i j
  unfold setB remB
  by_cases c : (i = p ∧ j = q) ∨ (i = q ∧ j = p)
  · rw [if_pos c, if_pos (by omega)]
  · rw [if_neg c]
    by_cases d : (i = p ∧ j < q) ∨ (j = p ∧ i < q)
    · rw [if_pos d, if_pos (by omega)]
    · rw [if_neg d, if_neg (by omega)]
theorem remB_skip {B : Nat → Nat → Nat} {p q : Nat} (hs : symB B) (h : B p q = 0) : remB B p q = remB B p (q + 1) := by
  funext i j
  unfold remB
  by_cases d : (i = p ∧ j < q) ∨ (j = p ∧ i < q)
  · rw [if_pos d, if_pos (by omega)]
  · rw [if_neg d]
    by_cases e : (i = p ∧ j < q + 1) ∨ (j = p ∧ i < q + 1)
    · rw [if_pos e]
      rcases e with ⟨rfl, e⟩ | ⟨rfl, e⟩
      · rw [show j = q by omega]; exact h
      · rw [show i = q by omega, hs]; exact h
    · rw [if_neg e]
def NT.remq (N : NT) (p q : Nat) : NT := (N.1, N.2.1, remB N.bt p q)
/-- a point goes, with its lines -/
def NT.rem (N : NT) (p : Nat) : NT := ((N.told, dif N.here (2 ^ p), N.gone), N.2.1, fun i j => if i = p ∨ j = p then 0 else N.bt i j)
theorem setLines_off {σ : GM} {n s : Nat} (h : σ.1 n 3 = nI s) (hs : s < 4096) {a b : Nat} {m : Int32} (ha : a < 12) (hb : b < 12) (htb : s.testBit b = false) : f_X3_setLines σ n (nI a) (nI b) m = some σ := by
  unfold f_X3_setLines
  simp only [nm_v, h, holds_at hs ha, holds_at hs hb, ob_s, htb, bI_f]
  split
  · rfl
  · rw [if_pos (show nI 0 = 0 from rfl)]
theorem remove_L {n : Nat} {N : NT} (hw : wf N) {p : Nat} (hp : p < 12) (ht : N.here.testBit p = true) : ∀ (k q : Nat) (σ : GM), q ≤ 12 → 12 < q + k → netAt σ n (N.remq p q) →
    ∃ σ', f_X3_remove_L12 n (nI p) k σ (nI q) = f_X3_remove_L31 n σ' (nI p) ∧ netAt σ' n (N.remq p 12) ∧ fr σ σ' n (n + 3) := by
  intro k
  induction k with
  | zero => intro q σ h1 h2; omega
  | succ k ih =>
    intro q σ h1 h2 hn
    by_cases hq : q = 12
    · subst hq
      exact ⟨σ, by unfold f_X3_remove_L12; simp (discharger := omega) only [i12, cle, if_pos], hn, fr.rf _ _ _⟩
    · have h12 : q < 12 := by omega
      have hlc : lcB (remB N.bt p q) ≤ 100 := Nat.le_trans (lcB_mono (remB_le p q)) (by have := hw.2.2.2.2.2.2.1; omega)
      cases hh : N.here.testBit q with
      | true =>
        obtain ⟨σ1, e1, e2, e3⟩ := setLines_at hn (remB_sym hw.2.2.2.2.1) hw.h4096 hlc hp h12 (m := 0) (by omega) ht hh
        have e4 : (N.remq p q).setL p q 0 = N.remq p (q + 1) := by
          show (N.1, N.2.1, setB (remB N.bt p q) p q 0) = _
          rw [remB_step]; rfl
        rw [e4] at e2
        obtain ⟨σ', g1, g2, g3⟩ := ih (q + 1) σ1 (by omega) (by omega) e2
        refine ⟨σ', ?_, g2, e3.trans g3⟩
        unfold f_X3_remove_L12
        simp (discharger := omega) only [i12, i0, i1, cle, if_neg, e1, ob_s, nm_v, nI_add]
        exact g1
      | false =>
        have e1 := setLines_off (m := nI 0) hn.2.1 hw.h4096 hp h12 hh
        have e4 : N.remq p q = N.remq p (q + 1) := by
          show (N.1, N.2.1, remB N.bt p q) = (N.1, N.2.1, remB N.bt p (q + 1))
          rw [remB_skip hw.2.2.2.2.1 (hw.b0 (Or.inr hh))]
        rw [e4] at hn
        obtain ⟨σ', g1, g2, g3⟩ := ih (q + 1) σ (by omega) (by omega) hn
        refine ⟨σ', ?_, g2, g3⟩
        unfold f_X3_remove_L12
        simp (discharger := omega) only [i12, i0, i1, cle, if_neg, e1, ob_s, nm_v, nI_add]
        exact g1
theorem rem_bt {N : NT} (hw : wf N) {p : Nat} (hp : p < 12) : remB N.bt p 12 = (N.rem p).bt := by
  funext i j
  show remB N.bt p 12 i j = if i = p ∨ j = p then 0 else N.bt i j
  unfold remB
  by_cases c : i = p ∨ j = p
  · rw [if_pos c]
    by_cases d : (i = p ∧ j < 12) ∨ (j = p ∧ i < 12)
    · rw [if_pos d]
    · rw [if_neg d]
      apply hw.b0
      rcases c with rfl | rfl
      · exact Or.inr (Nat.testBit_lt_two_pow (Nat.lt_of_lt_of_le hw.h4096 (Nat.pow_le_pow_right (n := 2) (by decide) (show 12 ≤ j by omega))))
      · exact Or.inl (Nat.testBit_lt_two_pow (Nat.lt_of_lt_of_le hw.h4096 (Nat.pow_le_pow_right (n := 2) (by decide) (show 12 ≤ i by omega))))
  · rw [if_neg c, if_neg (by omega)]
theorem tb_bit {p i : Nat} : (2 ^ p).testBit i = decide (p = i) := Nat.testBit_two_pow
theorem rem_wf {N : NT} (hw : wf N) {p : Nat} (hp : p < 12) : wf (N.rem p) := by
  obtain ⟨h1, h2, h3, h4, h5, h6, h7, h8⟩ := id hw
  have hle : ∀ i j, (N.rem p).bt i j ≤ N.bt i j := by
    intro i j
    show (if i = p ∨ j = p then 0 else N.bt i j) ≤ _
    split <;> omega
  refine ⟨h1, dif_lt h2, h3, h4, ?_, ?_, Nat.le_trans (lcB_mono hle) h7, fun i hi => Nat.le_trans (dgB_mono hle i) (h8 i hi)⟩
  · intro i j
    show (if i = p ∨ j = p then 0 else N.bt i j) = (if j = p ∨ i = p then 0 else N.bt j i)
    rw [h5 i j]
    by_cases c : i = p ∨ j = p
    · rw [if_pos c, if_pos (by omega)]
    · rw [if_neg c, if_neg (by omega)]
  · intro i j hne
    have hne : (if i = p ∨ j = p then 0 else N.bt i j) ≠ 0 := hne
    by_cases c : i = p ∨ j = p
    · rw [if_pos c] at hne; exact absurd rfl hne
    · rw [if_neg c] at hne
      obtain ⟨g1, g2⟩ := h6 i j hne
      have hh : N.here < 2 ^ 32 := Nat.lt_of_lt_of_le hw.h4096 (by decide)
      constructor
      · show (dif N.here (2 ^ p)).testBit i = true
        rw [tb_dif hh, g1, tb_bit, decide_eq_false (by omega)]; rfl
      · show (dif N.here (2 ^ p)).testBit j = true
        rw [tb_dif hh, g2, tb_bit, decide_eq_false (by omega)]; rfl
theorem remove_at {σ : GM} {n : Nat} {N : NT} (h : netAt σ n N) (hw : wf N) {p : Nat} (hp : p < 12) (ht : N.here.testBit p = true) :
    ∃ σ', f_X3_remove σ n (nI p) = some (σ', 1) ∧ netAt σ' n (N.rem p) ∧ fr σ σ' n (n + 3) := by
  have h0 : netAt σ n (N.remq p 0) := by
    have e : N.remq p 0 = N := by
      show (N.1, N.2.1, remB N.bt p 0) = N
      have : remB N.bt p 0 = N.bt := by funext i j; unfold remB; rw [if_neg (by omega)]
      rw [this]
    rw [e]; exact h
  obtain ⟨σ1, e1, e2, e3⟩ := remove_L hw hp ht 5000 0 σ (by omega) (by omega) h0
  refine ⟨wI σ1 n 3 (nI (dif N.here (2 ^ p))), ?_, ?_, e3.trans (fr_wI (by omega) (by omega))⟩
  · unfold f_X3_remove
    rw [isThere_at h.2.1 hw.h4096 hp, ob_s, ht, bI_t, if_neg (by decide), i0, e1]
    unfold f_X3_remove_L31
    rw [nm_v, e2.2.1, nI_bit hp, nI_dif]
    rfl
  · obtain ⟨g1, g2, g3, g4, g5, g6⟩ := e2
    refine ⟨?_, ?_, ?_, ?_, ?_, ?_⟩
    · simp only [wI_1]; rw [if_neg (by omega)]; exact g1
    · simp only [wI_1, and_self, if_true]; rfl
    · simp only [wI_1]; rw [if_neg (by omega)]; exact g3
    · simp only [wI_1]; rw [if_neg (by omega), g4]
      show nI (lcB (remB N.bt p 12)) = _
      rw [rem_bt hw hp]
    · intro i hi; simp only [wI_1]; rw [if_neg (by omega)]; exact g5 i hi
    · intro i hi j hj; simp only [wI_1]; rw [if_neg (by omega), g6 i hi j hj]
      show nI (remB N.bt p 12 i j) = _
      rw [rem_bt hw hp]
theorem remove_no {σ : GM} {n s : Nat} (h : σ.1 n 3 = nI s) (hs : s < 4096) {v : Int32} (ht : inT s v = false) : f_X3_remove σ n v = some (σ, 0) := by
  unfold f_X3_remove
  rw [isThere_any h hs, ob_s, ht, bI_f, if_pos (show nI 0 = 0 from rfl)]; rfl
/-- a line more between two -/
def canJ (N : NT) (a b : Nat) : Bool := decide (lcB N.bt < 20 ∧ dgB N.bt a + (if a = b then 2 else 1) ≤ 6 ∧ dgB N.bt b + (if a = b then 2 else 1) ≤ 6)
theorem addLine_L {σ : GM} {n : Nat} {N : NT} (h : netAt σ n N) (hw : wf N) {a b c : Nat} (ha : a < 12) (hb : b < 12) (hta : N.here.testBit a = true) (htb : N.here.testBit b = true) (hc : c ≤ 2) :
    (dgB N.bt a + c ≤ 6 ∧ dgB N.bt b + c ≤ 6 → ∃ σ', f_X3_addLine_L37 n σ (nI a) (nI b) (nI c) = some (σ', 1) ∧ netAt σ' n (N.setL a b (N.bt a b + 1)) ∧ fr σ σ' n (n + 3)) ∧
    (¬ (dgB N.bt a + c ≤ 6 ∧ dgB N.bt b + c ≤ 6) → f_X3_addLine_L37 n σ (nI a) (nI b) (nI c) = some (σ, 0)) := by
  have hda := hw.2.2.2.2.2.2.2 a ha
  have hdb := hw.2.2.2.2.2.2.2 b hb
  have hlc := hw.2.2.2.2.2.2.1
  have hBab := hw.b20 a b
  constructor
  · intro hk
    obtain ⟨σ1, e1, e2, e3⟩ := setLines_at h hw.2.2.2.2.1 hw.h4096 (by omega) ha hb (m := N.bt a b + 1) (by omega) hta htb
    refine ⟨σ1, ?_, e2, e3⟩
    unfold f_X3_addLine_L37
    simp (discharger := omega) only [h.2.1, endsIn_here h hw ha, endsIn_here h hw hb, ob_s, nI_add, i6, i1, clt, cle, if_neg, if_pos, linesOf_at h.2.2.2.2.2 ha hb, e1]
    rfl
  · intro hk
    unfold f_X3_addLine_L37
    simp (discharger := omega) only [h.2.1, endsIn_here h hw ha, endsIn_here h hw hb, ob_s, nI_add, i6, clt, cle]
    by_cases q : 6 < dgB N.bt a + c
    · rw [if_pos q]; rfl
    · rw [if_neg q, if_neg (by omega)]; rfl
theorem addLine_at {σ : GM} {n : Nat} {N : NT} (h : netAt σ n N) (hw : wf N) {a b : Nat} (ha : a < 12) (hb : b < 12) (hta : N.here.testBit a = true) (htb : N.here.testBit b = true) :
    (canJ N a b = true → ∃ σ', f_X3_addLine σ n (nI a) (nI b) = some (σ', 1) ∧ netAt σ' n (N.setL a b (N.bt a b + 1)) ∧ fr σ σ' n (n + 3)) ∧
    (canJ N a b = false → f_X3_addLine σ n (nI a) (nI b) = some (σ, 0)) := by
  have hlc := hw.2.2.2.2.2.2.1
  have key : f_X3_addLine σ n (nI a) (nI b) = if lcB N.bt < 20 then f_X3_addLine_L37 n σ (nI a) (nI b) (nI (if a = b then 2 else 1)) else some (σ, 0) := by
    unfold f_X3_addLine
    rw [isThere_at h.2.1 hw.h4096 ha, isThere_at h.2.1 hw.h4096 hb, ob_s, hta, bI_t, if_neg (by decide), ob_s, htb, bI_t, if_neg (by decide), h.2.2.2.1]
    simp (discharger := omega) only [i20, clt, ceq]
    by_cases c : lcB N.bt < 20
    · rw [if_pos c, if_pos c]
      by_cases d : a = b
      · rw [if_pos d, if_pos d]; rfl
      · rw [if_neg d, if_neg d]; rfl
    · rw [if_neg c, if_neg c]; rfl
  obtain ⟨k1, k2⟩ := addLine_L h hw ha hb hta htb (c := if a = b then 2 else 1) (by split <;> omega)
  constructor
  · intro hc
    have hc := of_decide_eq_true hc
    rw [key, if_pos hc.1]
    exact k1 hc.2
  · intro hc
    have hc := of_decide_eq_false hc
    rw [key]
    by_cases d : lcB N.bt < 20
    · rw [if_pos d]
      exact k2 (fun q => hc ⟨d, q⟩)
    · rw [if_neg d]
theorem addLine_no {σ : GM} {n s : Nat} (h : σ.1 n 3 = nI s) (hs : s < 4096) {u v : Int32} (ht : inT s u = false ∨ inT s v = false) : f_X3_addLine σ n u v = some (σ, 0) := by
  unfold f_X3_addLine
  rw [isThere_any h hs u, isThere_any h hs v, ob_s]
  cases e : inT s u with
  | false => rw [bI_f, if_pos (show nI 0 = 0 from rfl)]; rfl
  | true =>
    rcases ht with q | q
    · rw [e] at q; cases q
    · rw [bI_t, if_neg (by decide), ob_s, q, bI_f, if_pos (show nI 0 = 0 from rfl)]; rfl
theorem setL_wf {N : NT} (hw : wf N) {a b m : Nat} (ha : a < 12) (hb : b < 12) (hta : N.here.testBit a = true) (htb : N.here.testBit b = true)
    (h1 : lcB N.bt + m ≤ 20 + N.bt a b) (h2 : a ≠ b → dgB N.bt a + m ≤ 6 + N.bt a b ∧ dgB N.bt b + m ≤ 6 + N.bt a b) (h3 : a = b → dgB N.bt a + 2 * m ≤ 6 + 2 * N.bt a b) : wf (N.setL a b m) := by
  obtain ⟨w1, w2, w3, w4, w5, w6, w7, w8⟩ := hw
  refine ⟨w1, w2, w3, w4, setB_sym w5, ?_, ?_, ?_⟩
  · intro i j hne
    have hne : setB N.bt a b m i j ≠ 0 := hne
    unfold setB at hne
    by_cases c : (i = a ∧ j = b) ∨ (i = b ∧ j = a)
    · rcases c with ⟨rfl, rfl⟩ | ⟨rfl, rfl⟩
      · exact ⟨hta, htb⟩
      · exact ⟨htb, hta⟩
    · rw [if_neg c] at hne; exact w6 i j hne
  · show lcB (setB N.bt a b m) ≤ 20
    have := lcB_set m ha hb w5
    omega
  · intro i hi
    show dgB (setB N.bt a b m) i ≤ 6
    have := w8 i hi
    by_cases c : a = b
    · subst c
      by_cases d : i = a
      · subst d
        have := dgB_set2 (B := N.bt) m ha
        have := h3 rfl
        omega
      · rw [dgB_set0 d d]; omega
    · obtain ⟨q1, q2⟩ := h2 c
      by_cases d : i = a
      · subst d
        have := dgB_set1 (B := N.bt) (a := i) (b := b) m hb c
        omega
      · by_cases e : i = b
        · subst e
          rw [setB_swap]
          have := dgB_set1 (B := N.bt) (a := i) (b := a) m ha (fun z => c z.symm)
          rw [w5 i a] at this
          omega
        · rw [dgB_set0 d e]; omega
theorem canJ_wf {N : NT} (hw : wf N) {a b : Nat} (ha : a < 12) (hb : b < 12) (hta : N.here.testBit a = true) (htb : N.here.testBit b = true) (hc : canJ N a b = true) : wf (N.setL a b (N.bt a b + 1)) := by
  have hc := of_decide_eq_true hc
  refine setL_wf hw ha hb hta htb (by omega) (fun h => ?_) (fun h => ?_)
  · rw [if_neg h] at hc; omega
  · rw [if_pos h] at hc; omega
theorem take_wf {N : NT} (hw : wf N) {a b : Nat} (ha : a < 12) (hb : b < 12) (hta : N.here.testBit a = true) (htb : N.here.testBit b = true) : wf (N.setL a b (N.bt a b - 1)) := by
  have h1 := hw.2.2.2.2.2.2.1
  have h2 := hw.2.2.2.2.2.2.2 a ha
  have h3 := hw.2.2.2.2.2.2.2 b hb
  exact setL_wf hw ha hb hta htb (by omega) (fun h => by omega) (fun h => by omega)
theorem takeLine_at {σ : GM} {n : Nat} {N : NT} (h : netAt σ n N) (hw : wf N) {a b : Nat} (ha : a < 12) (hb : b < 12) (hta : N.here.testBit a = true) (htb : N.here.testBit b = true) (hpos : N.bt a b ≠ 0) :
    ∃ σ', f_X3_takeLine σ n (nI a) (nI b) = some (σ', 1) ∧ netAt σ' n (N.setL a b (N.bt a b - 1)) ∧ fr σ σ' n (n + 3) := by
  have hB := hw.b20 a b
  have hlc := hw.2.2.2.2.2.2.1
  obtain ⟨σ1, e1, e2, e3⟩ := setLines_at h hw.2.2.2.2.1 hw.h4096 (by omega) ha hb (m := N.bt a b - 1) (by omega) hta htb
  refine ⟨σ1, ?_, e2, e3⟩
  unfold f_X3_takeLine
  rw [isThere_at h.2.1 hw.h4096 ha, isThere_at h.2.1 hw.h4096 hb, ob_s, hta, bI_t, if_neg (by decide), ob_s, htb, bI_t, if_neg (by decide), linesOf_at h.2.2.2.2.2 ha hb, ob_s, i0, lt_y (by omega) (by omega), ob_s, i1, nI_sub (by omega), e1, ob_s]
  rfl
theorem takeLine_no {σ : GM} {n : Nat} {N : NT} (h : netAt σ n N) (hw : wf N) {u v : Int32} (ht : inT N.here u = false ∨ inT N.here v = false) : f_X3_takeLine σ n u v = some (σ, 0) := by
  unfold f_X3_takeLine
  rw [isThere_any h.2.1 hw.h4096 u, isThere_any h.2.1 hw.h4096 v, ob_s]
  cases e : inT N.here u with
  | false => rw [bI_f, if_pos (show nI 0 = 0 from rfl)]; rfl
  | true =>
    rcases ht with q | q
    · rw [e] at q; cases q
    · rw [bI_t, if_neg (by decide), ob_s, q, bI_f, if_pos (show nI 0 = 0 from rfl)]; rfl
theorem takeLine_0 {σ : GM} {n : Nat} {N : NT} (h : netAt σ n N) (hw : wf N) {a b : Nat} (ha : a < 12) (hb : b < 12) (hta : N.here.testBit a = true) (htb : N.here.testBit b = true) (h0 : N.bt a b = 0) : f_X3_takeLine σ n (nI a) (nI b) = some (σ, 0) := by
  unfold f_X3_takeLine
  rw [isThere_at h.2.1 hw.h4096 ha, isThere_at h.2.1 hw.h4096 hb, ob_s, hta, bI_t, if_neg (by decide), ob_s, htb, bI_t, if_neg (by decide), linesOf_at h.2.2.2.2.2 ha hb, ob_s, h0, i0, lt_n (by omega) (by omega)]
  rfl
/-- a point's weight -/
def NT.setW (N : NT) (p w : Nat) : NT := (N.1, (fun i => if i = p then w else N.wt i), N.bt)
theorem setW_wf {N : NT} (hw : wf N) {p w : Nat} (h1 : 1 ≤ w) (h2 : w ≤ 9) : wf (N.setW p w) := by
  obtain ⟨w1, w2, w3, w4, w5⟩ := hw
  refine ⟨w1, w2, w3, fun i hi => ?_, w5⟩
  show 1 ≤ (if i = p then w else N.wt i) ∧ (if i = p then w else N.wt i) ≤ 9
  split
  · exact ⟨h1, h2⟩
  · exact w4 i hi
theorem here_told {N : NT} (hw : wf N) {p : Nat} (h : N.here.testBit p = true) : p < N.told := tb_lt h hw.2.1
theorem changeWeight_at {σ : GM} {n : Nat} {N : NT} (h : netAt σ n N) (hw : wf N) {p w : Nat} (hp : p < 12) (hw9 : w ≤ 9) (ht : N.here.testBit p = true) (hne : N.wt p ≠ w) :
    ∃ σ', f_X3_changeWeight σ n (nI p) (nI w) = some (σ', 1) ∧ netAt σ' n (N.setW p w) ∧ fr σ σ' n (n + 3) := by
  have hpt := here_told hw ht
  have hb := (hw.2.2.2.1 p hpt).2
  have hwp := h.2.2.2.2.1 p hpt
  refine ⟨wI σ (n + 1) p (nI w), ?_, ?_, fr_wI (by omega) (by omega)⟩
  · unfold f_X3_changeWeight
    rw [isThere_at h.2.1 hw.h4096 hp, ob_s, ht, bI_t, if_neg (by decide), i12, le_n (by omega) (by omega), bnd_n hp (by omega), nI_clamp (by omega), hwp, eq_n hne (by omega) (by omega), bnd_n hp (by omega), nm_v]
    rfl
  · obtain ⟨g1, g2, g3, g4, g5, g6⟩ := h
    refine ⟨?_, ?_, ?_, ?_, ?_, ?_⟩
    · simp only [wI_1]; rw [if_neg (by omega)]; exact g1
    · simp only [wI_1]; rw [if_neg (by omega)]; exact g2
    · simp only [wI_1]; rw [if_neg (by omega)]; exact g3
    · simp only [wI_1]; rw [if_neg (by omega)]; exact g4
    · intro i hi
      simp only [wI_1, true_and]
      show _ = nI (if i = p then w else N.wt i)
      by_cases e : i = p
      · rw [if_pos e, if_pos e]
      · rw [if_neg e, if_neg e]; exact g5 i hi
    · intro i hi j hj; simp only [wI_1]; rw [if_neg (by omega)]; exact g6 i hi j hj
theorem changeWeight_same {σ : GM} {n : Nat} {N : NT} (h : netAt σ n N) (hw : wf N) {p : Nat} (hp : p < 12) (ht : N.here.testBit p = true) : f_X3_changeWeight σ n (nI p) (nI (N.wt p)) = some (σ, 0) := by
  have hpt := here_told hw ht
  have hwp := h.2.2.2.2.1 p hpt
  unfold f_X3_changeWeight
  rw [isThere_at h.2.1 hw.h4096 hp, ob_s, ht, bI_t, if_neg (by decide), i12, le_n (by omega) (by omega), bnd_n hp (by omega), nI_clamp (by omega), hwp, if_pos rfl]
  rfl
theorem changeWeight_no {σ : GM} {n s : Nat} (h : σ.1 n 3 = nI s) (hs : s < 4096) {v w : Int32} (ht : inT s v = false) : f_X3_changeWeight σ n v w = some (σ, 0) := by
  unfold f_X3_changeWeight
  rw [isThere_any h hs, ob_s, ht, bI_f, if_pos (show nI 0 = 0 from rfl)]; rfl
