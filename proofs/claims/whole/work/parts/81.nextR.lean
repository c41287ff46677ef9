/-! TOKENS, as the reference reads them -/
def rtp (σ : GM) (x : TT) : Prop := σ.1 60 3 = nI x.1 ∧ ∀ i, i < x.1 → σ.1 61 i = nI (x.2 i)
def keepK (σ σ' : GM) : Prop := (∀ m, m ≠ 60 → σ'.1 m = σ.1 m ∧ σ'.2 m = σ.2 m) ∧ ∀ i, i < 4 ∨ 7 < i → σ'.1 60 i = σ.1 60 i
theorem keepK.rf (σ : GM) : keepK σ σ := ⟨fun _ _ => ⟨rfl, rfl⟩, fun _ _ => rfl⟩
theorem keepK.tr {a b c : GM} (h : keepK a b) (g : keepK b c) : keepK a c := ⟨fun m hm => ⟨(g.1 m hm).1.trans (h.1 m hm).1, (g.1 m hm).2.trans (h.1 m hm).2⟩, fun i hi => (g.2 i hi).trans (h.2 i hi)⟩
theorem keepK.w {σ : GM} {i : Nat} {v : Int32} (h : 4 ≤ i ∧ i ≤ 7) : keepK σ (wI σ 60 i v) := ⟨fun m hm => wI_other m hm, fun j hj => by rw [wI_1, if_neg (by omega)]⟩
theorem keepK.l {σ : GM} {v : Int64} : keepK σ (wL σ 60 10 v) := ⟨fun m hm => wL_other m hm, fun _ _ => rfl⟩
theorem rtp.k {σ σ' : GM} {x : TT} (h : rtp σ x) (hk : keepK σ σ') : rtp σ' x := ⟨by rw [hk.2 3 (by omega)]; exact h.1, fun i hi => by rw [(hk.1 61 (by omega)).1]; exact h.2 i hi⟩
theorem tapeAt_at {σ : GM} {x : TT} (hx : tpI x) (hT : rtp σ x) {i : Nat} (hi : i ≤ 640) : f_X12_tapeAt σ (nI i) = some (nI (x.B i)) := by
  have h640 := hx.1
  unfold f_X12_tapeAt
  rw [hT.1]
  by_cases c : i < x.1
  · rw [le_n c (by omega), bnd_n (by omega) (by omega), nI_clamp (by omega), hT.2 i c, TT.B_y c]
  · rw [le_y (by omega) (by omega), TT.B_n (by omega)]; rfl
theorem letR {σ : GM} {c : Nat} (h : c < 256) : f_X12_isLetter σ (nI c) = some (nI (bI (ltr c))) := letC (σ := σ) h
theorem digR {σ : GM} {c : Nat} (h : c < 256) : f_X12_isDigit σ (nI c) = some (nI (bI (dgt c))) := digC (σ := σ) h
/-- all of one kind, that of the first -/
def gdF (x : TT) (q n : Nat) : Bool := if ltr (x.B q) = true then alF x q n else adF x q n
theorem al_1 {x : TT} {q : Nat} : ∀ n, alF x q (n + 1) = true → ltr (x.B q) = true := by
  intro n
  induction n with
  | zero =>
    intro h
    rw [alF, Bool.and_eq_true] at h
    exact h.2
  | succ n ih =>
    intro h
    rw [alF, Bool.and_eq_true] at h
    exact ih h.1
theorem ad_1 {x : TT} {q : Nat} : ∀ n, adF x q (n + 1) = true → dgt (x.B q) = true := by
  intro n
  induction n with
  | zero =>
    intro h
    rw [adF, Bool.and_eq_true] at h
    exact h.2
  | succ n ih =>
    intro h
    rw [adF, Bool.and_eq_true] at h
    exact ih h.1
theorem gd_s {x : TT} {q n : Nat} (ha : ann (x.B (q + n)) = true) : gdF x q (n + 1) = (gdF x q n && (ltr (x.B (q + n)) == ltr (x.B q))) := by
  unfold gdF
  cases c : ltr (x.B q) with
  | true =>
    rw [if_pos rfl, if_pos rfl]
    show (alF x q n && ltr (x.B (q + n))) = _
    cases ltr (x.B (q + n)) <;> rfl
  | false =>
    rw [if_neg (by decide), if_neg (by decide)]
    show (adF x q n && dgt (x.B (q + n))) = _
    unfold ann at ha
    cases d : ltr (x.B (q + n)) with
    | true =>
      have : dgt (x.B (q + n)) = false := by
        cases e : dgt (x.B (q + n)) with
        | false => rfl
        | true => rw [ltr_dgt e] at d; cases d
      rw [this]; rfl
    | false =>
      rw [d, Bool.false_or] at ha
      rw [ha]; rfl
def valR (σ : GM) (x : TT) (q n : Nat) : Prop := (n ≤ 7 → alF x q n = true → σ.2 60 10 = lN (wvF x q n)) ∧ (n ≤ 2 → adF x q n = true → σ.1 60 7 = nI (nvF x q n))
def gotR (σ : GM) (x : TT) (q : Nat) : Prop := σ.1 60 6 = nI (kdF x q) ∧ σ.1 60 5 = nI q ∧ (kdF x q = 2 → σ.2 60 10 = lN (vlF x q)) ∧ (kdF x q = 3 → σ.1 60 7 = nI (vlF x q)) ∧ σ.1 60 4 = nI (nxF x q)
theorem next_312 {σ : GM} {x : TT} {q : Nat} (ha : ann (x.B q) = true) (hr : rnF x q ≤ 640) (hq : q ≤ 640) (h4 : σ.1 60 4 = nI (q + rnF x q)) (h5 : σ.1 60 5 = nI q) (hv : valR σ x q (rnF x q)) :
    ∃ σ', f_X12_next_L312 σ (nI (bI (ltr (x.B q)))) (nI (bI (gdF x q (rnF x q)))) = some σ' ∧ gotR σ' x q ∧ keepK σ σ' := by
  have hnx : nxF x q = q + rnF x q := by unfold nxF; rw [if_pos ha]
  have hr1 : rnF x q = (rnF x q - 1) + 1 := by rw [rn_y ha]; rfl
  have kd : kdF x q = if alF x q (rnF x q) = true ∧ rnF x q ≤ 7 then 2 else if adF x q (rnF x q) = true ∧ rnF x q ≤ 2 then 3 else 1 := by unfold kdF; rw [if_pos ha]
  have fin : ∀ k : Nat, kdF x q = k → ∃ σ', (some (wI σ 60 6 (nI k)) : Option GM) = some σ' ∧ gotR σ' x q ∧ keepK σ σ' := by
    intro k hk
    refine ⟨_, rfl, ⟨by rw [wI_1, if_pos ⟨rfl, rfl⟩, hk], by rw [wI_1, if_neg (by omega)]; exact h5, fun e => ?_, fun e => ?_, by rw [wI_1, if_neg (by omega), hnx]; exact h4⟩, keepK.w (by omega)⟩
    · rw [kd] at e
      by_cases c : alF x q (rnF x q) = true ∧ rnF x q ≤ 7
      · show σ.2 60 10 = _
        unfold vlF
        rw [if_pos c.1]
        exact hv.1 c.2 c.1
      · rw [if_neg c] at e
        split at e <;> cases e
    · rw [kd] at e
      by_cases c : alF x q (rnF x q) = true ∧ rnF x q ≤ 7
      · rw [if_pos c] at e; cases e
      · rw [if_neg c] at e
        by_cases d : adF x q (rnF x q) = true ∧ rnF x q ≤ 2
        · rw [wI_1, if_neg (by omega)]
          unfold vlF
          rw [if_neg (fun z => c ⟨z, by omega⟩)]
          exact hv.2 d.2 d.1
        · rw [if_neg d] at e; cases e
  have hsub : σ.1 60 4 - σ.1 60 5 = nI (rnF x q) := by rw [h4, h5, nI_sub (by omega), Nat.add_sub_cancel_left]
  unfold f_X12_next_L312
  cases l : ltr (x.B q) with
  | true =>
    have hnd : adF x q (rnF x q) = true → False := by
      intro e
      rw [hr1] at e
      have := ad_1 _ e
      rw [ltr_dgt this] at l
      cases l
    have hg : gdF x q (rnF x q) = alF x q (rnF x q) := by unfold gdF; rw [if_pos l]
    rw [if_neg (fun (z : adF x q (rnF x q) = true ∧ rnF x q ≤ 2) => hnd z.1)] at kd
    rw [hg]
    cases c : alF x q (rnF x q) with
    | false =>
      rw [if_neg (fun z => by rw [c] at z; cases z.1)] at kd
      rw [bz_y rfl, nm_v, i1]
      exact fin 1 kd
    | true =>
      rw [bz_n rfl, bz_n rfl, hsub]
      unfold f_X12_next_L336
      rw [show (7 : Int32) = nI 7 from rfl]
      by_cases d : rnF x q ≤ 7
      · rw [if_pos ⟨c, d⟩] at kd
        rw [le_y d (by omega), bz_n rfl, nm_v, i2]
        exact fin 2 kd
      · rw [if_neg (fun z => d z.2)] at kd
        rw [le_n (by omega) (by omega), nm_v, i1]
        exact fin 1 kd
  | false =>
    have hnl : alF x q (rnF x q) = true → False := by
      intro e
      rw [hr1] at e
      rw [al_1 _ e] at l
      cases l
    have hg : gdF x q (rnF x q) = adF x q (rnF x q) := by unfold gdF; rw [if_neg (by rw [l]; decide)]
    rw [if_neg (fun z => hnl z.1)] at kd
    rw [hg]
    cases c : adF x q (rnF x q) with
    | false =>
      rw [if_neg (fun z => by rw [c] at z; cases z.1)] at kd
      rw [bz_y rfl, nm_v, i1]
      exact fin 1 kd
    | true =>
      rw [bz_n rfl, bz_y rfl, hsub]
      unfold f_X12_next_L336
      rw [i2]
      by_cases d : rnF x q ≤ 2
      · rw [if_pos ⟨c, d⟩] at kd
        rw [le_y d (by omega), bz_y rfl, nm_v, i3]
        exact fin 3 kd
      · rw [if_neg (fun z => d z.2)] at kd
        rw [le_n (by omega) (by omega), nm_v, i1]
        exact fin 1 kd
theorem next_205 {σ : GM} {x : TT} (hx : tpI x) {q n : Nat} (hT : rtp σ x) (hqn : q + n < x.1) (h4 : σ.1 60 4 = nI (q + n)) (h5 : σ.1 60 5 = nI q) (ha : ann (x.B (q + n)) = true) (hv : valR σ x q n) (K : GM → Int32 → Option GM) :
    ∃ σ', f_X12_next_L205 K (nI (bI (ltr (x.B q)))) σ (nI (bI (gdF x q n))) = K σ' (nI (bI (gdF x q (n + 1)))) ∧ valR σ' x q (n + 1) ∧ σ'.1 60 4 = nI (q + (n + 1)) ∧ σ'.1 60 5 = nI q ∧ keepK σ σ' := by
  have h640 := hx.1
  have hB := hx.B (q + n)
  have hb : x.B (q + n) = x.2 (q + n) := TT.B_y hqn
  have w1 : wvF x q (n + 1) = 27 * wvF x q n + (x.B (q + n) - 96) := rfl
  have w2 : nvF x q (n + 1) = 10 * nvF x q n + (x.B (q + n) - 48) := rfl
  have hsub : σ.1 60 4 - σ.1 60 5 = nI n := by rw [h4, h5, nI_sub (by omega), Nat.add_sub_cancel_left]
  -- the number
  have f269 : ∀ (σ1 : GM) (g : Int32), σ1.1 = σ.1 → keepK σ σ1 → (n + 1 ≤ 7 → alF x q (n + 1) = true → σ1.2 60 10 = lN (wvF x q (n + 1))) →
      ∃ σ', f_X12_next_L269 K (nI (bI (ltr (x.B q)))) σ1 g (nI (x.B (q + n))) = K σ' g ∧ valR σ' x q (n + 1) ∧ σ'.1 60 4 = nI (q + (n + 1)) ∧ σ'.1 60 5 = nI q ∧ keepK σ σ' := by
    intro σ1 g e1 hk hw
    have last : ∀ σ2 : GM, σ2.1 60 4 = nI (q + n) → σ2.1 60 5 = nI q → keepK σ σ2 → σ2.2 = σ1.2 → (n + 1 ≤ 2 → adF x q (n + 1) = true → σ2.1 60 7 = nI (nvF x q (n + 1))) →
        ∃ σ', f_X12_next_L299 K (nI (bI (ltr (x.B q)))) σ2 g = K σ' g ∧ valR σ' x q (n + 1) ∧ σ'.1 60 4 = nI (q + (n + 1)) ∧ σ'.1 60 5 = nI q ∧ keepK σ σ' := by
      intro σ2 a4 a5 ak a2 an
      refine ⟨wI σ2 60 4 (nI (q + (n + 1))), ?_, ⟨fun c d => ?_, fun c d => ?_⟩, by rw [wI_1, if_pos ⟨rfl, rfl⟩], by rw [wI_1, if_neg (by omega)]; exact a5, ak.tr (keepK.w (by omega))⟩
      · unfold f_X12_next_L299
        rw [a4, i1, nI_add, nm_v]
        rfl
      · show σ2.2 60 10 = _
        rw [a2]; exact hw c d
      · rw [wI_1, if_neg (by omega)]; exact an c d
    unfold f_X12_next_L269
    rw [e1, hsub, i2]
    by_cases c : 2 ≤ n
    · rw [le_y c (by omega)]
      exact last σ1 (by rw [e1]; exact h4) (by rw [e1]; exact h5) hk rfl (fun z => absurd z (by omega))
    · rw [le_n (by omega) (by omega), nm_v]
      refine last _ (by rw [wI_1, if_neg (by omega), e1]; exact h4) (by rw [wI_1, if_neg (by omega), e1]; exact h5) (hk.tr (keepK.w (by omega))) rfl (fun _ d => ?_)
      have d' := d
      rw [adF, Bool.and_eq_true] at d'
      have hd := dgt_t.mp d'.2
      rw [wI_1, if_pos ⟨rfl, rfl⟩, hv.2 (by omega) d'.1, show (10 : Int32) = nI 10 from rfl, show (48 : Int32) = nI 48 from rfl, pk_mul, nI_add, nI_sub (by omega), w2]
      congr 1
      omega
  have f234 : ∀ g : Int32, ∃ σ', f_X12_next_L234 K (nI (bI (ltr (x.B q)))) σ (nI (x.B (q + n))) g = K σ' g ∧ valR σ' x q (n + 1) ∧ σ'.1 60 4 = nI (q + (n + 1)) ∧ σ'.1 60 5 = nI q ∧ keepK σ σ' := by
    intro g
    unfold f_X12_next_L234
    rw [hsub, show (7 : Int32) = nI 7 from rfl]
    by_cases c : 7 ≤ n
    · rw [le_y c (by omega)]
      exact f269 σ g rfl (keepK.rf σ) (fun z => absurd z (by omega))
    · rw [le_n (by omega) (by omega), nm_v]
      refine f269 _ g rfl keepK.l (fun _ d => ?_)
      have d' := d
      rw [alF, Bool.and_eq_true] at d'
      have hl := ltr_t.mp d'.2
      rw [wL_2, if_pos ⟨rfl, rfl⟩, hv.1 (by omega) d'.1, nI_l (by omega), show (27 : Int64) = lN 27 from rfl, show (96 : Int64) = lN 96 from rfl, lN_mul, lN_add, lN_sub (by omega), w1]
      congr 1
      omega
  unfold f_X12_next_L205
  rw [h4, nm_v, bnd_n (by omega) (by omega), nI_clamp (by omega), hT.2 _ hqn, ← hb, nm_v, gd_s ha]
  cases g : gdF x q n with
  | false =>
    rw [bz_y rfl]
    unfold f_X12_next_L233
    exact f234 0
  | true =>
    rw [bz_n rfl, letR hB, ob_s]
    have f0 := f234 (nI (bI false))
    have f1 := f234 (nI (bI true))
    cases c : ltr (x.B (q + n)) with
    | true =>
      cases d : ltr (x.B q) with
      | true =>
        rw [d] at f1
        rw [if_pos rfl]
        exact f1
      | false =>
        rw [d] at f0
        rw [if_neg (by decide)]
        unfold f_X12_next_L233
        exact f0
    | false =>
      cases d : ltr (x.B q) with
      | true =>
        rw [d] at f0
        rw [if_neg (by decide)]
        unfold f_X12_next_L233
        exact f0
      | false =>
        rw [d] at f1
        rw [if_pos rfl]
        exact f1
theorem next_177 {x : TT} (hx : tpI x) {q : Nat} (ha : ann (x.B q) = true) (hqx : q ≤ x.1) : ∀ (m k n : Nat) (σ : GM), rnF x (q + n) = m → rnF x q = n + m → m < k → rtp σ x → σ.1 60 4 = nI (q + n) → σ.1 60 5 = nI q → valR σ x q n →
    ∃ σ', f_X12_next_L177 (nI (bI (ltr (x.B q)))) k σ (nI (bI (gdF x q n))) = some σ' ∧ gotR σ' x q ∧ keepK σ σ' := by
  have hle := rn_le (x := x) (x.1 - q) q (Nat.le_refl _) hqx
  have h640 := hx.1
  intro m
  induction m with
  | zero =>
    intro k n σ h1 h2 hk hT h4 h5 hv
    obtain ⟨k, rfl⟩ : ∃ k', k = k' + 1 := ⟨k - 1, by omega⟩
    have hB := hx.B (q + n)
    have hn : ann (x.B (q + n)) = false := by
      cases c : ann (x.B (q + n)) with
      | false => rfl
      | true => rw [rn_y c] at h1; omega
    have hn' := hn
    unfold ann at hn'
    rw [Bool.or_eq_false_iff] at hn'
    have hrn : rnF x q = n := by omega
    have key := next_312 ha (by omega) (by omega) (by rw [hrn]; exact h4) h5 (by rw [hrn]; exact hv)
    rw [hrn] at key
    unfold f_X12_next_L177
    rw [h4, tapeAt_at hx hT (by omega), ob_s, letR hB, ob_s, bz_y hn'.1, ob_s, digR hB, ob_s, bz_y hn'.2]
    exact key
  | succ m ih =>
    intro k n σ h1 h2 hk hT h4 h5 hv
    obtain ⟨k, rfl⟩ : ∃ k', k = k' + 1 := ⟨k - 1, by omega⟩
    have hB := hx.B (q + n)
    have hn : ann (x.B (q + n)) = true := by
      cases c : ann (x.B (q + n)) with
      | true => rfl
      | false => rw [rn_n c] at h1; omega
    have hlt : q + n < x.1 := by
      rcases Nat.lt_or_ge (q + n) x.1 with c | c
      · exact c
      · rw [TT.B_n c, ann_0] at hn; cases hn
    rw [rn_y hn] at h1
    obtain ⟨σ1, r1, r2, r3, r4, r5⟩ := next_205 hx hT hlt h4 h5 hn hv (fun σ' v3' => f_X12_next_L177 (nI (bI (ltr (x.B q)))) k σ' v3')
    obtain ⟨σ', s1, s2, s3⟩ := ih k (n + 1) σ1 (by rw [← Nat.add_assoc]; omega) (by omega) (by omega) (hT.k r5) r3 r4 r2
    refine ⟨σ', ?_, s2, r5.tr s3⟩
    unfold f_X12_next_L177
    rw [h4, tapeAt_at hx hT (by omega), ob_s, letR hB, ob_s]
    cases c : ltr (x.B (q + n)) with
    | true =>
      rw [bz_n rfl, r1]
      exact s1
    | false =>
      have hd : dgt (x.B (q + n)) = true := by
        unfold ann at hn
        rw [c, Bool.false_or] at hn
        exact hn
      rw [bz_y rfl, ob_s, digR hB, ob_s, bz_n hd, r1]
      exact s1
/-- the token that was read behind p -/
def tokR (σ : GM) (x : TT) (p : Nat) : Prop := σ.1 60 6 = nI (tkK x p) ∧ σ.1 60 5 = nI (tkP x p) ∧ (tkK x p = 2 → σ.2 60 10 = lN (tkV x p)) ∧ (tkK x p = 3 → σ.1 60 7 = nI (tkV x p)) ∧ σ.1 60 4 = nI (tkT x p)
theorem next_93 {σ : GM} {x : TT} (hx : tpI x) {p : Nat} (hT : rtp σ x) (hp : p ≤ x.1) (h6 : ¬ (600 < x.1 ∧ 600 ≤ skF x p)) (h4 : σ.1 60 4 = nI (skF x p)) (h5 : σ.1 60 5 = nI (skF x p)) :
    ∃ σ', f_X12_next_L93 σ = some σ' ∧ tokR σ' x p ∧ keepK σ σ' := by
  have h640 := hx.1
  have hsk := (sk_ge (x := x) (x.1 - p) p (Nat.le_refl _)).2 hp
  have hP : tkP x p = skF x p := by unfold tkP; rw [if_neg h6]
  unfold f_X12_next_L93
  rw [h4, hT.1]
  by_cases c : skF x p < x.1
  · have hK : tkK x p = kdF x (skF x p) := by unfold tkK; rw [if_neg h6, if_neg (by omega)]
    have hX : tkT x p = nxF x (skF x p) := by unfold tkT; rw [if_neg h6, if_neg (by omega)]
    have hV : tkV x p = vlF x (skF x p) := rfl
    have hB := hx.B (skF x p)
    have hb : x.B (skF x p) = x.2 (skF x p) := TT.B_y c
    have fin : ∀ σ', gotR σ' x (skF x p) → tokR σ' x p := by
      rintro σ' ⟨g1, g2, g3, g4, g5⟩
      exact ⟨by rw [hK]; exact g1, by rw [hP]; exact g2, fun e => by rw [hK] at e; exact g3 e, fun e => by rw [hK] at e; exact g4 e, by rw [hX]; exact g5⟩
    have go : ann (x.B (skF x p)) = true → ∃ σ', f_X12_next_L160 σ (nI (x.B (skF x p))) = some σ' ∧ tokR σ' x p ∧ keepK σ σ' := by
      intro ha
      have hk : keepK σ (wI (wL σ 60 10 0) 60 7 0) := keepK.l.tr (keepK.w (by omega))
      have hv : valR (wI (wL σ 60 10 0) 60 7 0) x (skF x p) 0 := by
        refine ⟨fun _ _ => ?_, fun _ _ => ?_⟩
        · show (wL σ 60 10 0).2 60 10 = lN 0
          rw [wL_2, if_pos ⟨rfl, rfl⟩]; rfl
        · show _ = nI 0
          rw [wI_1, if_pos ⟨rfl, rfl⟩]; rfl
      have hg : gdF x (skF x p) 0 = true := by unfold gdF; split <;> rfl
      have key := next_177 hx ha hsk (rnF x (skF x p)) 5000 0 (wI (wL σ 60 10 0) 60 7 0) rfl (by omega) (by have := rn_le (x := x) (x.1 - skF x p) (skF x p) (Nat.le_refl _) hsk; omega) (hT.k hk) (by rw [wI_1, if_neg (by omega)]; exact h4) (by rw [wI_1, if_neg (by omega)]; exact h5) hv
      rw [hg] at key
      obtain ⟨σ', r1, r2, r3⟩ := key
      refine ⟨σ', ?_, fin σ' r2, hk.tr r3⟩
      unfold f_X12_next_L160
      rw [letR hB, ob_s, nm_v, nm_v]
      exact r1
    rw [lt_y c (by omega), nm_v, bnd_n (by omega) (by omega), nI_clamp (by omega), hT.2 _ c, ← hb, nm_v, letR hB, ob_s]
    cases l : ltr (x.B (skF x p)) with
    | true =>
      rw [bz_n rfl]
      exact go (by unfold ann; rw [l]; rfl)
    | false =>
      rw [bz_y rfl, digR hB, ob_s]
      cases d : dgt (x.B (skF x p)) with
      | true =>
        rw [bz_n rfl]
        exact go (by unfold ann; rw [l, d]; rfl)
      | false =>
        have ha : ann (x.B (skF x p)) = false := by unfold ann; rw [l, d]; rfl
        have hk : kdF x (skF x p) = if x.B (skF x p) = 59 then 4 else 1 := by unfold kdF; rw [if_neg (by rw [ha]; decide)]
        have hn : nxF x (skF x p) = skF x p + 1 := by unfold nxF; rw [if_neg (by rw [ha]; decide)]
        have done : ∀ k : Nat, kdF x (skF x p) = k → k = 4 ∨ k = 1 → ∃ σ', f_X12_next_L146 σ (nI k) = some σ' ∧ tokR σ' x p ∧ keepK σ σ' := by
          intro k e hk41
          have e4 : (wI σ 60 6 (nI k)).1 60 4 = nI (skF x p) := by rw [wI_1, if_neg (by omega)]; exact h4
          refine ⟨wI (wI σ 60 6 (nI k)) 60 4 (nI (skF x p + 1)), ?_, fin _ ⟨?_, ?_, fun z => absurd z (by omega), fun z => absurd z (by omega), ?_⟩, (keepK.w (by omega)).tr (keepK.w (by omega))⟩
          · unfold f_X12_next_L146
            rw [nm_v, e4, i1, nI_add, nm_v]
          · rw [wI_1, if_neg (by omega), wI_1, if_pos ⟨rfl, rfl⟩, e]
          · rw [wI_1, if_neg (by omega), wI_1, if_neg (by omega)]; exact h5
          · rw [wI_1, if_pos ⟨rfl, rfl⟩, hn]
        rw [bz_y rfl, show (59 : Int32) = nI 59 from rfl]
        by_cases e : x.B (skF x p) = 59
        · rw [if_pos e] at hk
          rw [eq_y e]
          exact done 4 hk (Or.inl rfl)
        · rw [if_neg e] at hk
          rw [eq_n e (by omega) (by omega)]
          exact done 1 hk (Or.inr rfl)
  · have hK : tkK x p = 0 := by unfold tkK; rw [if_neg h6, if_pos (by omega)]
    have hX : tkT x p = skF x p := by unfold tkT; rw [if_neg h6, if_pos (by omega)]
    rw [lt_n (by omega) (by omega), nm_v]
    refine ⟨_, rfl, ⟨by rw [wI_1, if_pos ⟨rfl, rfl⟩, hK]; rfl, by rw [wI_1, if_neg (by omega), hP]; exact h5, fun z => (by rw [hK] at z; cases z), fun z => (by rw [hK] at z; cases z), by rw [wI_1, if_neg (by omega), hX]; exact h4⟩, keepK.w (by omega)⟩
theorem next_52 {σ : GM} {x : TT} (hx : tpI x) {p : Nat} (hT : rtp σ x) (hp : p ≤ x.1) (h4 : σ.1 60 4 = nI (skF x p)) : ∃ σ', f_X12_next_L52 σ = some σ' ∧ tokR σ' x p ∧ keepK σ σ' := by
  have h640 := hx.1
  have hsk := (sk_ge (x := x) (x.1 - p) p (Nat.le_refl _)).2 hp
  have hk : keepK σ (wI σ 60 5 (nI (skF x p))) := keepK.w (by omega)
  have h3 : (wI σ 60 5 (nI (skF x p))).1 60 3 = nI x.1 := (hT.k hk).1
  have h5 : (wI σ 60 5 (nI (skF x p))).1 60 5 = nI (skF x p) := by rw [wI_1, if_pos ⟨rfl, rfl⟩]
  have h4' : (wI σ 60 5 (nI (skF x p))).1 60 4 = nI (skF x p) := by rw [wI_1, if_neg (by omega)]; exact h4
  unfold f_X12_next_L52
  rw [h4, nm_v, h3, show (600 : Int32) = nI 600 from rfl]
  have go : ¬ (600 < x.1 ∧ 600 ≤ skF x p) → ∃ σ', f_X12_next_L93 (wI σ 60 5 (nI (skF x p))) = some σ' ∧ tokR σ' x p ∧ keepK σ σ' := by
    intro h6
    obtain ⟨σ', r1, r2, r3⟩ := next_93 hx (hT.k hk) hp h6 h4' h5
    exact ⟨σ', r1, r2, hk.tr r3⟩
  by_cases c : x.1 ≤ 600
  · rw [le_y c (by omega)]
    exact go (fun z => by omega)
  · rw [le_n (by omega) (by omega), h5]
    by_cases d : skF x p < 600
    · rw [lt_y d (by omega)]
      exact go (fun z => by omega)
    · have h6 : 600 < x.1 ∧ 600 ≤ skF x p := by omega
      have hK : tkK x p = 1 := by unfold tkK; rw [if_pos h6]
      rw [lt_n (by omega) (by omega), nm_v, nm_v]
      refine ⟨_, rfl, ⟨by rw [wI_1, if_pos ⟨rfl, rfl⟩, hK]; rfl, ?_, fun z => (by rw [hK] at z; cases z), fun z => (by rw [hK] at z; cases z), ?_⟩, (hk.tr (keepK.w (by omega))).tr (keepK.w (by omega))⟩
      · rw [wI_1, if_neg (by omega), wI_1, if_pos ⟨rfl, rfl⟩]
        unfold tkP; rw [if_pos h6]
      · rw [wI_1, if_neg (by omega), wI_1, if_neg (by omega), h4']
        unfold tkT; rw [if_pos h6]
theorem next_L {x : TT} (hx : tpI x) : ∀ (k p : Nat) (σ : GM), x.1 - p < k → p ≤ x.1 → rtp σ x → σ.1 60 4 = nI p → ∃ σ', f_X12_next_L0 k σ = some σ' ∧ tokR σ' x p ∧ keepK σ σ' := by
  have h640 := hx.1
  intro k
  induction k with
  | zero => intro p σ h; omega
  | succ k ih =>
    intro p σ hk hp hT h4
    unfold f_X12_next_L0
    rw [hT.1, h4]
    by_cases c : p < x.1
    · have hB := hx.B p
      have hb : x.B p = x.2 p := TT.B_y c
      have go : blk (x.B p) = true → ∃ σ', f_X12_next_L39 (fun σ' => f_X12_next_L0 k σ') σ = some σ' ∧ tokR σ' x p ∧ keepK σ σ' := by
        intro hbl
        have hkp : keepK σ (wI σ 60 4 (nI (p + 1))) := keepK.w (by omega)
        obtain ⟨σ', r1, r2, r3⟩ := ih (p + 1) (wI σ 60 4 (nI (p + 1))) (by omega) (by omega) (hT.k hkp) (by rw [wI_1, if_pos ⟨rfl, rfl⟩])
        refine ⟨σ', ?_, ?_, hkp.tr r3⟩
        · unfold f_X12_next_L39
          rw [h4, i1, nI_add, nm_v]
          exact r1
        · have e := sk_b c hbl
          unfold tokR tkK tkP tkV tkT at r2 ⊢
          rw [e]; exact r2
      rw [le_n c (by omega), nm_v, bnd_n (by omega) (by omega), nI_clamp (by omega), hT.2 p c, ← hb, show (32 : Int32) = nI 32 from rfl, show (10 : Int32) = nI 10 from rfl]
      by_cases b1 : x.B p = 32
      · rw [eq_y b1]
        exact go (by unfold blk; rw [decide_eq_true (Or.inl b1)])
      · rw [eq_n b1 (by omega) (by omega), nm_v, bnd_n (by omega) (by omega), nI_clamp (by omega), hT.2 p c, ← hb]
        by_cases b2 : x.B p = 10
        · rw [eq_y b2]
          exact go (by unfold blk; rw [decide_eq_true (Or.inr b2)])
        · rw [eq_n b2 (by omega) (by omega)]
          exact next_52 hx hT hp (by rw [sk_n (fun _ => by unfold blk; rw [decide_eq_false (fun z => by omega)])]; exact h4)
    · rw [le_y (by omega) (by omega)]
      exact next_52 hx hT hp (by rw [sk_n (fun z => by omega)]; exact h4)
theorem next_at {σ : GM} {x : TT} (hx : tpI x) {p : Nat} (hT : rtp σ x) (hp : p ≤ x.1) (h4 : σ.1 60 4 = nI p) : ∃ σ', f_X12_next σ = some σ' ∧ tokR σ' x p ∧ keepK σ σ' := next_L hx 5000 p σ (by have := hx.1; omega) hp hT h4
