/-! TOKENS, as the class reads them -/
def tpI (x : TT) : Prop := x.1 ≤ 640 ∧ ∀ i, i < x.1 → x.2 i < 256
theorem tpI.B {x : TT} (h : tpI x) (i : Nat) : x.B i < 256 := by
  by_cases c : i < x.1
  · rw [TT.B_y c]; exact h.2 i c
  · rw [TT.B_n (by omega)]; omega
theorem byteAt_at {σ : GM} {x : TT} (hT : cTape σ x.1 x.2) {i : Nat} (hi : i ≤ 640) : f_X10_byteAt σ (nI i) = some (nI (x.B i)) := by
  obtain ⟨h1, h2, h3⟩ := hT
  unfold f_X10_byteAt
  rw [if_neg (nI_pos (by omega)), h1]
  by_cases c : i < x.1
  · rw [le_n c (by omega), show (640 : Int32) = nI 640 from rfl, le_n (by omega) (by omega), bnd_n (by omega) (by omega), nI_clamp (by omega), (h3 i c).1, TT.B_y c]
  · rw [le_y (by omega) (by omega), TT.B_n (by omega)]; rfl
theorem letC {σ : GM} {c : Nat} (h : c < 256) : f_X6_isLetter σ (nI c) = some (nI (bI (ltr c))) := by
  unfold f_X6_isLetter ltr
  rw [show (97 : Int32) = nI 97 from rfl, show (122 : Int32) = nI 122 from rfl]
  by_cases a : 97 ≤ c
  · rw [lt_n a (by omega)]
    by_cases b : c ≤ 122
    · rw [lt_n b (by omega), decide_eq_true ⟨a, b⟩]; rfl
    · rw [lt_y (by omega) (by omega), decide_eq_false (fun z => b z.2)]; rfl
  · rw [lt_y (by omega) (by omega), decide_eq_false (fun z => a z.1)]; rfl
theorem digC {σ : GM} {c : Nat} (h : c < 256) : f_X6_isDigit σ (nI c) = some (nI (bI (dgt c))) := by
  unfold f_X6_isDigit dgt
  rw [show (48 : Int32) = nI 48 from rfl, show (57 : Int32) = nI 57 from rfl]
  by_cases a : 48 ≤ c
  · rw [lt_n a (by omega)]
    by_cases b : c ≤ 57
    · rw [lt_n b (by omega), decide_eq_true ⟨a, b⟩]; rfl
    · rw [lt_y (by omega) (by omega), decide_eq_false (fun z => b z.2)]; rfl
  · rw [lt_y (by omega) (by omega), decide_eq_false (fun z => a z.1)]; rfl
theorem nI_band (a b : Bool) : nI (bI a) &&& nI (bI b) = nI (bI (a && b)) := by cases a <;> cases b <;> decide
def onlyT (σ σ' : GM) : Prop := (∀ m, m ≠ 3 → σ'.1 m = σ.1 m ∧ σ'.2 m = σ.2 m) ∧ ∀ i, i ≠ 6 → i ≠ 8 → σ'.1 3 i = σ.1 3 i
theorem onlyT.rf (σ : GM) : onlyT σ σ := ⟨fun _ _ => ⟨rfl, rfl⟩, fun _ _ _ => rfl⟩
theorem onlyT.tr {a b c : GM} (h : onlyT a b) (g : onlyT b c) : onlyT a c := ⟨fun m hm => ⟨(g.1 m hm).1.trans (h.1 m hm).1, (g.1 m hm).2.trans (h.1 m hm).2⟩, fun i h1 h2 => (g.2 i h1 h2).trans (h.2 i h1 h2)⟩
theorem onlyT.wL {σ : GM} {k : Nat} {v : Int64} : onlyT σ (wL σ 3 k v) := ⟨fun m hm => wL_other m hm, fun _ _ _ => rfl⟩
theorem onlyT.w6 {σ : GM} {v : Int32} : onlyT σ (wI σ 3 6 v) := ⟨fun m hm => wI_other m hm, fun i h _ => by rw [wI_1, if_neg (by omega)]⟩
theorem onlyT.w8 {σ : GM} {v : Int32} : onlyT σ (wI σ 3 8 v) := ⟨fun m hm => wI_other m hm, fun i _ h => by rw [wI_1, if_neg (by omega)]⟩
theorem cTape.ot {σ σ' : GM} {t : Nat} {b : Nat → Nat} (h : cTape σ t b) (ho : onlyT σ σ') : cTape σ' t b := by
  obtain ⟨h1, h2, h3⟩ := h
  exact ⟨by rw [(ho.1 1 (by omega)).1]; exact h1, h2, fun i hi => by rw [(ho.1 2 (by omega)).1]; exact h3 i hi⟩
/-- the value as far as it is read -/
def valC (σ : GM) (x : TT) (q n : Nat) : Prop := (n ≤ 7 → alF x q n = true → σ.2 3 7 = lN (wvF x q n)) ∧ (n ≤ 7 → adF x q n = true → σ.2 3 7 = lN (nvF x q n))
theorem ltr_dgt {c : Nat} (h : dgt c = true) : ltr c = false := by
  have := dgt_t.mp h
  cases e : ltr c with
  | false => rfl
  | true => have := ltr_t.mp e; omega
/-- what a token read is -/
def gotC (σ : GM) (x : TT) (q : Nat) : Prop := σ.1 3 6 = nI (kdF x q - 1) ∧ (kdF x q = 2 ∨ kdF x q = 3 → σ.2 3 7 = lN (vlF x q)) ∧ σ.1 3 8 = nI (nxF x q)
theorem read_170 {σ : GM} {x : TT} {q : Nat} (hq : σ.1 3 3 = nI q) (h6 : σ.1 3 6 = nI 0) (ha : ann (x.B q) = true) (hr : rnF x q ≤ 640) (hv : valC σ x q (rnF x q)) :
    ∃ σ', f_X6_readToken_L170 σ (nI (bI (alF x q (rnF x q)))) (nI (bI (adF x q (rnF x q)))) (nI (rnF x q)) = some σ' ∧ gotC σ' x q ∧ onlyT σ σ' := by
  have hnx : nxF x q = q + rnF x q := by unfold nxF; rw [if_pos ha]
  have hvl : kdF x q = 2 ∨ kdF x q = 3 → σ.2 3 7 = lN (vlF x q) := by
    intro h
    unfold kdF at h
    rw [if_pos ha] at h
    unfold vlF
    by_cases c : alF x q (rnF x q) = true ∧ rnF x q ≤ 7
    · rw [if_pos c.1]; exact hv.1 c.2 c.1
    · rw [if_neg c] at h
      by_cases d : adF x q (rnF x q) = true ∧ rnF x q ≤ 2
      · have hna : ¬ alF x q (rnF x q) = true := fun z => c ⟨z, by omega⟩
        rw [if_neg hna]
        exact hv.2 (by omega) d.1
      · rw [if_neg d] at h
        rcases h with h | h <;> cases h
  have h8 : σ.1 3 3 + nI (rnF x q) = nI (nxF x q) := by rw [hq, nI_add, hnx]
  have h8' : (wI σ 3 8 (nI (nxF x q))).1 3 8 = nI (nxF x q) := by rw [wI_1, if_pos ⟨rfl, rfl⟩]
  have h6' : (wI σ 3 8 (nI (nxF x q))).1 3 6 = nI 0 := by rw [wI_1, if_neg (by omega)]; exact h6
  have keep : ∀ k : Nat, kdF x q = k + 1 → k ≠ 0 → ∃ σ', (some (wI (wI σ 3 8 (nI (nxF x q))) 3 6 (nI k)) : Option GM) = some σ' ∧ gotC σ' x q ∧ onlyT σ σ' := by
    intro k hk _
    refine ⟨_, rfl, ⟨?_, fun h => hvl h, ?_⟩, onlyT.w8.tr onlyT.w6⟩
    · rw [wI_1, if_pos ⟨rfl, rfl⟩, hk]; rfl
    · rw [wI_1, if_neg (by omega)]; exact h8'
  have stay : kdF x q = 1 → ∃ σ', (some (wI σ 3 8 (nI (nxF x q))) : Option GM) = some σ' ∧ gotC σ' x q ∧ onlyT σ σ' := by
    intro hk
    refine ⟨_, rfl, ⟨?_, fun h => hvl h, h8'⟩, onlyT.w8⟩
    rw [h6', hk]
  have kd : kdF x q = if alF x q (rnF x q) = true ∧ rnF x q ≤ 7 then 2 else if adF x q (rnF x q) = true ∧ rnF x q ≤ 2 then 3 else 1 := by unfold kdF; rw [if_pos ha]
  have l200 : ¬ (alF x q (rnF x q) = true ∧ rnF x q ≤ 7) → ∃ σ', f_X6_readToken_L200 (wI σ 3 8 (nI (nxF x q))) (nI (bI (adF x q (rnF x q)))) (nI (rnF x q)) = some σ' ∧ gotC σ' x q ∧ onlyT σ σ' := by
    intro c
    rw [if_neg c] at kd
    unfold f_X6_readToken_L200
    cases d : adF x q (rnF x q) with
    | false =>
      rw [if_neg (fun z => by rw [d] at z; cases z.1)] at kd
      rw [bz_y rfl]
      exact stay kd
    | true =>
      rw [bz_n rfl, i2]
      by_cases e : rnF x q ≤ 2
      · rw [if_pos ⟨d, e⟩] at kd
        rw [lt_n e (by omega), nm_v]
        exact keep 2 kd (by omega)
      · rw [if_neg (fun z => e z.2)] at kd
        rw [lt_y (by omega) (by omega)]
        exact stay kd
  unfold f_X6_readToken_L170
  rw [h8, nm_v]
  cases c : alF x q (rnF x q) with
  | false =>
    rw [bz_y rfl]
    exact l200 (fun z => by rw [c] at z; cases z.1)
  | true =>
    rw [bz_n rfl, show (7 : Int32) = nI 7 from rfl]
    by_cases e : rnF x q ≤ 7
    · rw [if_pos ⟨c, e⟩] at kd
      rw [lt_n e (by omega), nm_v, i1]
      exact keep 1 kd (by omega)
    · rw [lt_y (by omega) (by omega)]
      exact l200 (fun z => e z.2)
theorem read_90 {σ : GM} {x : TT} (hx : tpI x) {q n : Nat} (hT : cTape σ x.1 x.2) (hqn : q + n < 640) (hv : valC σ x q n) (K : GM → Int32 → Int32 → Int32 → Int32 → Option GM) :
    ∃ σ', f_X6_readToken_L90 K σ (nI (bI (alF x q n))) (nI (bI (adF x q n))) (nI n) (nI (q + n)) = K σ' (nI (bI (alF x q (n + 1)))) (nI (bI (adF x q (n + 1)))) (nI (n + 1)) (nI (q + (n + 1))) ∧ valC σ' x q (n + 1) ∧ onlyT σ σ' ∧ σ'.1 = σ.1 := by
  have hB := hx.B (q + n)
  have a1 : alF x q (n + 1) = (alF x q n && ltr (x.B (q + n))) := rfl
  have a2 : adF x q (n + 1) = (adF x q n && dgt (x.B (q + n))) := rfl
  have w1 : wvF x q (n + 1) = 27 * wvF x q n + (x.B (q + n) - 96) := rfl
  have w2 : nvF x q (n + 1) = 10 * nvF x q n + (x.B (q + n) - 48) := rfl
  unfold f_X6_readToken_L90
  rw [byteAt_at hT (by omega), ob_s, letC hB, ob_s, nI_band, nm_v, digC hB, ob_s, nI_band, nm_v, i1, nI_add, nm_v, show (7 : Int32) = nI 7 from rfl, ← a1, ← a2]
  by_cases c : n + 1 ≤ 7
  · rw [lt_n c (by omega)]
    cases d : alF x q (n + 1) with
    | false =>
      rw [bz_y rfl]
      refine ⟨_, by rw [nm_v, nI_add, nm_v]; rfl, ⟨fun _ h => (by rw [d] at h; cases h), fun _ h => ?_⟩, onlyT.wL, rfl⟩
      rw [a2, Bool.and_eq_true] at h
      have hd := dgt_t.mp h.2
      rw [wL_2, if_pos ⟨rfl, rfl⟩, hv.2 (by omega) h.1, show (48 : Int32) = nI 48 from rfl, nI_sub (by omega), nI_l (by omega), show (10 : Int64) = lN 10 from rfl, lN_mul, lN_add, w2, Nat.mul_comm]
    | true =>
      have d' := d
      rw [a1, Bool.and_eq_true] at d'
      have hl := ltr_t.mp d'.2
      rw [bz_n rfl]
      refine ⟨_, by rw [nm_v, nI_add, nm_v]; rfl, ⟨fun _ _ => ?_, fun _ h => ?_⟩, onlyT.wL, rfl⟩
      · rw [wL_2, if_pos ⟨rfl, rfl⟩, hv.1 (by omega) d'.1, show (97 : Int32) = nI 97 from rfl, nI_sub (by omega), nI_add, nI_l (by omega), show (27 : Int64) = lN 27 from rfl, lN_mul, lN_add, w1, Nat.mul_comm]
        congr 1
        omega
      · rw [a2, Bool.and_eq_true] at h
        rw [ltr_dgt h.2] at d'
        cases d'.2
  · rw [lt_y (by omega) (by omega)]
    exact ⟨σ, by rw [nI_add, nm_v]; rfl, ⟨fun z => absurd z c, fun z => absurd z c⟩, onlyT.rf σ, rfl⟩
theorem read_58 {x : TT} (hx : tpI x) {q : Nat} (ha : ann (x.B q) = true) (hqx : q ≤ x.1) : ∀ (m k n : Nat) (σ : GM), rnF x (q + n) = m → rnF x q = n + m → m < k → cTape σ x.1 x.2 → σ.1 3 3 = nI q → σ.1 3 6 = nI 0 → valC σ x q n →
    ∃ σ', f_X6_readToken_L58 k σ (nI (bI (alF x q n))) (nI (bI (adF x q n))) (nI n) (nI (q + n)) = some σ' ∧ gotC σ' x q ∧ onlyT σ σ' := by
  have hle := rn_le (x := x) (x.1 - q) q (Nat.le_refl _) hqx
  have h640 := hx.1
  intro m
  induction m with
  | zero =>
    intro k n σ h1 h2 hk hT h3 h6 hv
    obtain ⟨k, rfl⟩ : ∃ k', k = k' + 1 := ⟨k - 1, by omega⟩
    have hB := hx.B (q + n)
    have hn : ann (x.B (q + n)) = false := by
      cases c : ann (x.B (q + n)) with
      | false => rfl
      | true => rw [rn_y c] at h1; omega
    have hn' := hn
    unfold ann at hn'
    rw [Bool.or_eq_false_iff] at hn'
    have hrn : rnF x q = n := by omega
    have key := read_170 h3 h6 ha (by omega) (by rw [hrn]; exact hv)
    rw [hrn] at key
    unfold f_X6_readToken_L58
    rw [show (640 : Int32) = nI 640 from rfl]
    by_cases c : 640 ≤ q + n
    · rw [le_y c (by omega)]; exact key
    · rw [le_n (by omega) (by omega), byteAt_at hT (by omega), ob_s, letC hB, ob_s, bz_y hn'.1, ob_s, digC hB, ob_s, bz_y hn'.2]
      exact key
  | succ m ih =>
    intro k n σ h1 h2 hk hT h3 h6 hv
    obtain ⟨k, rfl⟩ : ∃ k', k = k' + 1 := ⟨k - 1, by omega⟩
    have hB := hx.B (q + n)
    have hn : ann (x.B (q + n)) = true := by
      cases c : ann (x.B (q + n)) with
      | true => rfl
      | false => rw [rn_n c] at h1; omega
    rw [rn_y hn] at h1
    obtain ⟨σ1, r1, r2, r3, r4⟩ := read_90 hx hT (q := q) (n := n) (by omega) hv (fun σ' v3' v4' v5' v6' => f_X6_readToken_L58 k σ' v3' v4' v5' v6')
    obtain ⟨σ', s1, s2, s3⟩ := ih k (n + 1) σ1 (by rw [← Nat.add_assoc]; omega) (by omega) (by omega) (hT.ot r3) (by rw [r4]; exact h3) (by rw [r4]; exact h6) r2
    refine ⟨σ', ?_, s2, r3.tr s3⟩
    unfold f_X6_readToken_L58
    rw [show (640 : Int32) = nI 640 from rfl, le_n (by omega) (by omega), byteAt_at hT (by omega), ob_s, letC hB, ob_s]
    cases c : ltr (x.B (q + n)) with
    | true =>
      rw [bz_n rfl, r1]
      exact s1
    | false =>
      have hd : dgt (x.B (q + n)) = true := by
        unfold ann at hn
        rw [c, Bool.false_or] at hn
        exact hn
      rw [bz_y rfl, ob_s, digC hB, ob_s, bz_n hd, r1]
      exact s1
theorem readToken_at {σ : GM} {x : TT} (hx : tpI x) {q : Nat} (hT : cTape σ x.1 x.2) (hq : q < x.1) (h3 : σ.1 3 3 = nI q) (h8 : σ.1 3 8 = nI (q + 1)) :
    ∃ σ', f_X6_readToken σ = some σ' ∧ gotC σ' x q ∧ onlyT σ σ' := by
  have hB := hx.B q
  have h640 := hx.1
  have key : ∀ s : Nat, s = (if x.B q = 59 then 3 else 0) → ∃ σ', f_X6_readToken_L21 σ (nI (x.B q)) (nI s) = some σ' ∧ gotC σ' x q ∧ onlyT σ σ' := by
    intro s hs
    have hT1 : cTape (wL (wI σ 3 6 (nI s)) 3 7 0) x.1 x.2 := hT.ot (onlyT.w6.tr onlyT.wL)
    have h31 : (wL (wI σ 3 6 (nI s)) 3 7 0).1 3 3 = nI q := by
      show (wI σ 3 6 (nI s)).1 3 3 = _
      rw [wI_1, if_neg (by omega)]; exact h3
    have h61 : (wL (wI σ 3 6 (nI s)) 3 7 0).1 3 6 = nI s := by
      show (wI σ 3 6 (nI s)).1 3 6 = _
      rw [wI_1, if_pos ⟨rfl, rfl⟩]
    have h81 : (wL (wI σ 3 6 (nI s)) 3 7 0).1 3 8 = nI (q + 1) := by
      show (wI σ 3 6 (nI s)).1 3 8 = _
      rw [wI_1, if_neg (by omega)]; exact h8
    have hv : valC (wL (wI σ 3 6 (nI s)) 3 7 0) x q 0 := by
      have e : (wL (wI σ 3 6 (nI s)) 3 7 0).2 3 7 = lN 0 := by rw [wL_2, if_pos ⟨rfl, rfl⟩]; rfl
      exact ⟨fun _ _ => e, fun _ _ => e⟩
    unfold f_X6_readToken_L21
    rw [nm_v, nm_v]
    have go : ann (x.B q) = true → ∃ σ', f_X6_readToken_L44 (wL (wI σ 3 6 (nI s)) 3 7 0) = some σ' ∧ gotC σ' x q ∧ onlyT σ σ' := by
      intro ha
      have hs0 : s = 0 := by
        rw [hs, if_neg]
        intro z
        rw [z] at ha
        exact absurd ha (by decide)
      obtain ⟨σ', r1, r2, r3⟩ := read_58 hx ha (by omega) (rnF x q) 5000 0 _ rfl (by omega) (by have := rn_le (x := x) (x.1 - q) q (Nat.le_refl _) (by omega); omega) hT1 h31 (by rw [h61, hs0]) hv
      refine ⟨σ', ?_, r2, (onlyT.w6.tr onlyT.wL).tr r3⟩
      unfold f_X6_readToken_L44
      rw [nm_v, h31]
      exact r1
    cases a : ltr (x.B q) with
    | true =>
      rw [letC hB, ob_s, bz_n a]
      exact go (by unfold ann; rw [a]; rfl)
    | false =>
      rw [letC hB, ob_s, bz_y a, digC hB, ob_s]
      cases d : dgt (x.B q) with
      | true =>
        rw [bz_n rfl]
        exact go (by unfold ann; rw [a, d]; rfl)
      | false =>
        rw [bz_y rfl]
        have ha : ann (x.B q) = false := by unfold ann; rw [a, d]; rfl
        have hk : kdF x q = if x.B q = 59 then 4 else 1 := by unfold kdF; rw [if_neg (by rw [ha]; decide)]
        refine ⟨_, rfl, ⟨?_, fun h => ?_, ?_⟩, onlyT.w6.tr onlyT.wL⟩
        · rw [h61, hs, hk]
          by_cases c : x.B q = 59
          · rw [if_pos c, if_pos c]
          · rw [if_neg c, if_neg c]
        · rw [hk] at h
          by_cases c : x.B q = 59
          · rw [if_pos c] at h; rcases h with h | h <;> cases h
          · rw [if_neg c] at h; rcases h with h | h <;> cases h
        · rw [h81]
          unfold nxF
          rw [if_neg (by rw [ha]; decide)]
  unfold f_X6_readToken
  rw [h3, byteAt_at hT (by omega), ob_s, show (59 : Int32) = nI 59 from rfl]
  by_cases c : x.B q = 59
  · rw [eq_y c]
    exact key 3 (by rw [if_pos c])
  · rw [eq_n c (by omega) (by omega)]
    exact key 0 (by rw [if_neg c])
