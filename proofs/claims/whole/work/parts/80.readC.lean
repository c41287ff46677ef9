/-! THE WHOLE TEXT, in the class -/
theorem fr.ot {σ σ' : GM} (h : onlyT σ σ') : fr σ σ' 3 8 := fun m hm => h.1 m (by omega)
theorem fr.or {σ σ' : GM} (h : onlyR σ σ') : fr σ σ' 3 8 := fun m hm => h.1 m (by omega)
theorem rdC.ot {σ σ' : GM} {s : RS} (h : rdC σ s) (ho : onlyT σ σ') : rdC σ' s := by
  obtain ⟨h1, h2, h3, h4, h5⟩ := h
  refine ⟨by rw [ho.2 4 (by omega) (by omega)]; exact h1, by rw [ho.2 2 (by omega) (by omega)]; exact h2, fun z => (by rw [ho.2 5 (by omega) (by omega)]; exact h3 z), ?_, fun i hi => by rw [(ho.1 7 (by omega)).2]; exact h5 i hi⟩
  obtain ⟨g1, g2, g3, g4, g5, g6⟩ := h4
  have e4 := (ho.1 4 (by omega)).1
  have e5 := (ho.1 5 (by omega)).1
  have e6 := (ho.1 6 (by omega)).1
  exact ⟨by rw [e4]; exact g1, by rw [e4]; exact g2, by rw [e4]; exact g3, by rw [e4]; exact g4, fun i hi => by rw [e5]; exact g5 i hi, fun i hi j hj => by rw [e6]; exact g6 i hi j hj⟩
theorem rdC.w3 {σ : GM} {s : RS} {v : Int32} (h : rdC σ s) : rdC (wI σ 3 3 v) s := by
  obtain ⟨h1, h2, h3, h4, h5⟩ := h
  exact ⟨by rw [wI_1, if_neg (by omega)]; exact h1, by rw [wI_1, if_neg (by omega)]; exact h2, fun z => (by rw [wI_1, if_neg (by omega)]; exact h3 z), h4.keep (fr_wI (a := 3) (b := 4) (by omega) (by omega)) (by omega), h5⟩
theorem kd_bd {x : TT} {q : Nat} : 1 ≤ kdF x q ∧ kdF x q ≤ 4 := by
  unfold kdF
  split
  · split
    · omega
    · split <;> omega
  · split <;> omega
theorem vl_lt {x : TT} {q : Nat} (h : kdF x q = 2 ∨ kdF x q = 3) : vlF x q < 2 ^ 40 := by
  unfold kdF at h
  unfold vlF
  by_cases a : ann (x.B q) = true
  · rw [if_pos a] at h
    by_cases c : alF x q (rnF x q) = true ∧ rnF x q ≤ 7
    · rw [if_pos c.1]
      have h1 := wv_lt _ c.1
      have h2 : 27 ^ rnF x q ≤ 27 ^ 7 := Nat.pow_le_pow_right (by decide) c.2
      have h3 : (27 : Nat) ^ 7 < 2 ^ 40 := by decide
      omega
    · rw [if_neg c] at h
      by_cases d : adF x q (rnF x q) = true ∧ rnF x q ≤ 2
      · rw [if_neg (fun z => c ⟨z, by omega⟩)]
        have h1 := nv_lt _ d.1
        have h2 : 10 ^ rnF x q ≤ 10 ^ 2 := Nat.pow_le_pow_right (by decide) d.2
        have h3 : (10 : Nat) ^ 2 < 2 ^ 40 := by decide
        omega
      · rw [if_neg d] at h
        rcases h with h | h <;> cases h
  · rw [if_neg a] at h
    by_cases c : x.B q = 59
    · rw [if_pos c] at h; rcases h with h | h <;> cases h
    · rw [if_neg c] at h; rcases h with h | h <;> cases h
theorem nx_gt {x : TT} {q : Nat} : q + 1 ≤ nxF x q := by
  unfold nxF
  by_cases a : ann (x.B q) = true
  · rw [if_pos a, rn_y a]; omega
  · rw [if_neg a]; omega
theorem nx_le {x : TT} {q : Nat} (h : q < x.1) : nxF x q ≤ x.1 := by
  unfold nxF
  by_cases a : ann (x.B q) = true
  · rw [if_pos a]; exact rn_le (x.1 - q) q (Nat.le_refl _) (by omega)
  · rw [if_neg a]; omega
theorem tkF_1 {s : RS} {v : Nat} : tkF s 1 v = .inl 1 := by
  have hn : ¬ isNm 1 v = true := by
    unfold isNm
    rw [decide_eq_true_iff]
    exact fun z => by cases z.1
  have h3 : tk3 s 1 = .inl 1 := by unfold tk3; rw [if_neg (by decide)]
  unfold tkF
  by_cases e0 : s.e = 0
  · rw [if_pos e0]; unfold tk0; rw [if_neg (fun z => by cases z.1), if_neg (fun z => by cases z.1), if_neg (by decide)]
  by_cases e1 : s.e = 1
  · rw [if_neg e0, if_pos e1]; unfold tk1; rw [if_neg hn]
  by_cases e2 : s.e = 2
  · rw [if_neg e0, if_neg e1, if_pos e2]; unfold tk2; rw [if_neg (by decide), h3]
  by_cases e3 : s.e = 3
  · rw [if_neg e0, if_neg e1, if_neg e2, if_pos e3, h3]
  by_cases e4 : s.e = 4
  · rw [if_neg e0, if_neg e1, if_neg e2, if_neg e3, if_pos e4]; unfold tk4; rw [if_neg hn]
  rw [if_neg e0, if_neg e1, if_neg e2, if_neg e3, if_neg e4]; unfold tk5; rw [if_neg hn]
theorem tkF_0 {s : RS} {v : Nat} : tkF s 0 v = if s.e = 0 then .inr none else .inl 1 := by
  have hn : ¬ isNm 0 v = true := by
    unfold isNm
    rw [decide_eq_true_iff]
    exact fun z => by cases z.1
  have h3 : tk3 s 0 = .inl 1 := by unfold tk3; rw [if_neg (by decide)]
  unfold tkF
  by_cases e0 : s.e = 0
  · rw [if_pos e0, if_pos e0]; unfold tk0; rw [if_neg (fun z => by cases z.1), if_neg (fun z => by cases z.1), if_pos rfl]
  by_cases e1 : s.e = 1
  · rw [if_neg e0, if_neg e0, if_pos e1]; unfold tk1; rw [if_neg hn]
  by_cases e2 : s.e = 2
  · rw [if_neg e0, if_neg e0, if_neg e1, if_pos e2]; unfold tk2; rw [if_neg (by decide), h3]
  by_cases e3 : s.e = 3
  · rw [if_neg e0, if_neg e0, if_neg e1, if_neg e2, if_pos e3, h3]
  by_cases e4 : s.e = 4
  · rw [if_neg e0, if_neg e0, if_neg e1, if_neg e2, if_neg e3, if_pos e4]; unfold tk4; rw [if_neg hn]
  rw [if_neg e0, if_neg e0, if_neg e1, if_neg e2, if_neg e3, if_neg e4]; unfold tk5; rw [if_neg hn]
/-- what the whole text comes to, in the class -/
def resC (y : RR) (σ' : GM) (c : Int32) : Prop := match y with
  | .inl (k, q) => c = nI k ∧ k ≠ 0 ∧ k < 6 ∧ σ'.1 3 3 = nI q
  | .inr (r, N) => c = nI 0 ∧ σ'.1 3 2 = nI r ∧ netAt σ' 4 N ∧ wf N
theorem run_blank {x : TT} {j p : Nat} {s : RS} (h : p < x.1) (hb : blk (x.B p) = true) : runF x (j + 1) p s = runF x (j + 1) (p + 1) s := by
  rw [runF_s, runF_s]
  unfold tkK tkV tkP tkT
  rw [sk_b h hb]
theorem readAll_L {x : TT} (hx : tpI x) {lim : Nat} (hlim : lim = if 600 < x.1 then 600 else x.1) : ∀ (k j p i : Nat) (σ : GM) (s : RS), p ≤ x.1 → i ≤ p → 641 ≤ p + j → 641 ≤ p + k → rsI s → mB s → rdC σ s → cTape σ x.1 x.2 → σ.1 3 3 = nI p →
    ∃ σ' c, f_X6_readAll_L40 (nI lim) k σ (nI i) = some (σ', c) ∧ resC (runF x j p s) σ' c ∧ fr σ σ' 3 8 := by
  have h640 := hx.1
  have hl600 : lim ≤ 600 ∧ lim ≤ x.1 ∧ (x.1 ≤ 600 → lim = x.1) ∧ (600 < x.1 → lim = 600) := by
    rw [hlim]; split <;> omega
  intro k
  induction k with
  | zero => intro j p i σ s hp _ _ hk; omega
  | succ k ih =>
    intro j p i σ s hp hi hj hk hI hm hr hT h3
    obtain ⟨j, rfl⟩ : ∃ j', j = j' + 1 := ⟨j - 1, by omega⟩
    by_cases c : lim ≤ p
    · have hL : f_X6_readAll_L40 (nI lim) (k + 1) σ (nI i) = f_X6_readAll_L122 σ (nI lim) := by
        unfold f_X6_readAll_L40
        rw [show (640 : Int32) = nI 640 from rfl]
        by_cases d : 640 ≤ i
        · rw [le_y d (by omega)]
        · rw [le_n (by omega) (by omega), h3, le_y c (by omega)]
      have hf : fr σ (wI σ 3 3 (nI lim)) 3 8 := fr_wI (by omega) (by omega)
      have h33 : (wI σ 3 3 (nI lim)).1 3 3 = nI lim := by rw [wI_1, if_pos ⟨rfl, rfl⟩]
      have hT1 : (wI σ 3 3 (nI lim)).1 1 1 = nI x.1 := by rw [wI_1, if_neg (by omega)]; exact hT.1
      have h34 : (wI σ 3 3 (nI lim)).1 3 4 = nI s.e := by rw [wI_1, if_neg (by omega)]; exact hr.1
      have he := hI.2.1
      rw [hL, runF_s]
      unfold f_X6_readAll_L122
      rw [nm_v, hT1, show (600 : Int32) = nI 600 from rfl]
      by_cases d : 600 < x.1
      · have hsk := (sk_ge (x := x) (x.1 - p) p (Nat.le_refl _)).1
        have hk1 : tkK x p = 1 := by unfold tkK; rw [if_pos ⟨d, by have := hl600.2.2.2 d; omega⟩]
        have hp1 : tkP x p = 600 := by unfold tkP; rw [if_pos ⟨d, by have := hl600.2.2.2 d; omega⟩]
        rw [lt_y d (by omega), hk1, tkF_1, hp1]
        refine ⟨_, _, rfl, ⟨rfl, by omega, by omega, ?_⟩, hf⟩
        rw [h33, hl600.2.2.2 d]
      · have hpx : p = x.1 := by have := hl600.2.2.1 (by omega); omega
        have hsk : skF x p = p := sk_n (fun z => by omega)
        have hk1 : tkK x p = 0 := by unfold tkK; rw [if_neg (fun z => d z.1), hsk, if_pos (by omega)]
        have hp1 : tkP x p = p := by unfold tkP; rw [if_neg (fun z => d z.1), hsk]
        rw [lt_n (by omega) (by omega), h34, hk1, tkF_0, hp1]
        by_cases e : s.e = 0
        · rw [e, if_pos (show nI 0 = 0 from rfl), if_pos rfl]
          refine ⟨_, _, rfl, ⟨rfl, ?_, hr.w3.2.2.2.1, hI.1⟩, hf⟩
          rw [wI_1, if_neg (by omega)]; exact hr.2.1
        · rw [if_neg (nI_ne0 (by omega) (by omega)), if_neg e]
          refine ⟨_, _, rfl, ⟨rfl, by omega, by omega, ?_⟩, hf⟩
          rw [h33, hl600.2.2.1 (by omega), hpx]
    · have hpt : p < x.1 := by omega
      have hB := hx.B p
      have e8 : (wI σ 3 8 (nI (p + 1))).1 3 8 = nI (p + 1) := by rw [wI_1, if_pos ⟨rfl, rfl⟩]
      have e3 : (wI σ 3 8 (nI (p + 1))).1 3 3 = nI p := by rw [wI_1, if_neg (by omega)]; exact h3
      have ho8 : onlyT σ (wI σ 3 8 (nI (p + 1))) := onlyT.w8
      -- the place moves on
      have go : ∀ (σ1 : GM) (p' j' : Nat) (s' : RS), σ1.1 3 8 = nI p' → p + 1 ≤ p' → p' ≤ x.1 → 641 ≤ p' + j' → rsI s' → mB s' → rdC σ1 s' → fr σ σ1 3 8 →
          ∃ σ' c, f_X6_readAll_L108 (fun σ' v3' => f_X6_readAll_L40 (nI lim) k σ' v3') (nI lim) σ1 (nI i) = some (σ', c) ∧ resC (runF x j' p' s') σ' c ∧ fr σ σ' 3 8 := by
        intro σ1 p' j' s' a1 a2 a3 a4 a5 a6 a7 a8
        have hfw : fr σ1 (wI σ1 3 3 (nI p')) 3 8 := fr_wI (by omega) (by omega)
        have hT1 : cTape (wI σ1 3 3 (nI p')) x.1 x.2 := (hT.keep a8 (by omega)).keep hfw (by omega)
        obtain ⟨σ', c', r1, r2, r3⟩ := ih j' p' (i + 1) (wI σ1 3 3 (nI p')) s' a3 (by omega) a4 (by omega) a5 a6 a7.w3 hT1 (by rw [wI_1, if_pos ⟨rfl, rfl⟩])
        refine ⟨σ', c', ?_, r2, (a8.trans hfw).trans r3⟩
        unfold f_X6_readAll_L108
        rw [a1, nm_v, i1, nI_add, nm_v]
        exact r1
      unfold f_X6_readAll_L40
      rw [show (640 : Int32) = nI 640 from rfl, le_n (by omega) (by omega), h3, le_n (by omega) (by omega), byteAt_at hT (by omega), ob_s, i1, nI_add, nm_v, show (32 : Int32) = nI 32 from rfl, show (10 : Int32) = nI 10 from rfl]
      by_cases b1 : x.B p = 32
      · rw [eq_y b1, run_blank hpt (by unfold blk; rw [decide_eq_true (Or.inl b1)])]
        exact go _ (p + 1) (j + 1) s e8 (Nat.le_refl _) (by omega) (by omega) hI hm (hr.ot ho8) (fr.ot ho8)
      · rw [eq_n b1 (by omega) (by omega)]
        by_cases b2 : x.B p = 10
        · rw [eq_y b2, run_blank hpt (by unfold blk; rw [decide_eq_true (Or.inr b2)])]
          exact go _ (p + 1) (j + 1) s e8 (Nat.le_refl _) (by omega) (by omega) hI hm (hr.ot ho8) (fr.ot ho8)
        · rw [eq_n b2 (by omega) (by omega)]
          have hbl : blk (x.B p) = false := by unfold blk; rw [decide_eq_false (fun z => by omega)]
          have hsk : skF x p = p := sk_n (fun _ => hbl)
          have n6 : ¬ (600 < x.1 ∧ 600 ≤ p) := fun z => by have := hl600.2.2.2 z.1; omega
          have hK : tkK x p = kdF x p := by unfold tkK; rw [hsk, if_neg n6, if_neg (by omega)]
          have hP : tkP x p = p := by unfold tkP; rw [hsk, if_neg n6]
          have hV : tkV x p = vlF x p := by unfold tkV; rw [hsk]
          have hX : tkT x p = nxF x p := by unfold tkT; rw [hsk, if_neg n6, if_neg (by omega)]
          obtain ⟨σ1, r1, ⟨g1, g2, g3⟩, r3⟩ := readToken_at hx (hT.ot ho8) hpt e3 e8
          have ho1 := ho8.tr r3
          obtain ⟨kb1, kb2⟩ := kd_bd (x := x) (q := p)
          obtain ⟨σ2, c', t1, t2, t3, t4, t5, t6⟩ := takeToken_at hI hm (hr.ot ho1) (k := kdF x p) (v := vlF x p) ⟨kb1, kb2, g1, fun z => ⟨g2 z, vl_lt z⟩⟩
          have hf2 : fr σ σ2 3 8 := (fr.ot ho1).trans (fr.or t6)
          have h33 : σ2.1 3 3 = nI p := by rw [t6.2.1, ho1.2 3 (by omega) (by omega)]; exact h3
          have h38 : σ2.1 3 8 = nI (nxF x p) := by rw [t6.2.2]; exact g3
          rw [r1, ob_s, t1, ob2_s, runF_s, hK, hP, hV, hX]
          cases hy : tkF s (kdF x p) (vlF x p) with
          | inl d =>
            obtain ⟨d1, d2⟩ := t3 d hy
            rw [hy] at t2
            have hc : c' = nI d := t2
            rw [hc, if_neg (nI_ne0 (by omega) (by omega))]
            exact ⟨σ2, _, rfl, ⟨rfl, d1, d2, h33⟩, hf2⟩
          | inr y =>
            cases y with
            | none => exact absurd hy t5
            | some s' =>
              obtain ⟨u1, u2⟩ := t4 s' hy
              rw [hy] at t2
              have hc : c' = nI 0 := t2
              rw [hc, if_pos (show nI 0 = 0 from rfl)]
              exact go σ2 (nxF x p) j s' h38 nx_gt (nx_le hpt) (by have := nx_gt (x := x) (q := p); omega) (tkF_I hI hy) u2 u1 hf2
def s00 : RS := ((0, 0, 0), NT.emp, fun _ => 0)
theorem s00_I : rsI s00 := ⟨emp_wf, Nat.zero_le _, fun i hi => absurd hi (by show ¬ i < 0; omega), fun z => (by cases z), fun z => (by cases z), fun z => (by rcases z with z | z <;> cases z), fun z => (by cases z)⟩
theorem s00_m : mB s00 := fun i hi => absurd hi (by show ¬ i < 0; omega)
theorem readAll_at {σ : GM} {x : TT} (hx : tpI x) (hT : cTape σ x.1 x.2) : ∃ σ' c, f_X6_readAll σ = some (σ', c) ∧ resC (runF x 700 0 s00) σ' c ∧ fr σ σ' 3 8 := by
  obtain ⟨σ1, r1, r2, r3⟩ := empty_at σ 4
  have h640 := hx.1
  have hf : fr σ (wI (wI (wI (wI σ1 3 2 0) 3 4 0) 3 5 (-1)) 3 3 0) 3 8 := (r3.wide (by omega) (by omega)).trans ((((fr_wI (by omega) (by omega)).trans (fr_wI (by omega) (by omega))).trans (fr_wI (by omega) (by omega))).trans (fr_wI (by omega) (by omega)))
  have hf2 : fr σ1 (wI (wI (wI (wI σ1 3 2 0) 3 4 0) 3 5 (-1)) 3 3 0) 3 4 := ((((fr_wI (by omega) (by omega)).trans (fr_wI (by omega) (by omega))).trans (fr_wI (by omega) (by omega))).trans (fr_wI (by omega) (by omega)))
  have hr : rdC (wI (wI (wI (wI σ1 3 2 0) 3 4 0) 3 5 (-1)) 3 3 0) s00 := by
    refine ⟨?_, ?_, fun z => (by cases z), r2.keep hf2 (by omega), fun i hi => absurd hi (by show ¬ i < 0; omega)⟩
    · rw [wI_1, if_neg (by omega), wI_1, if_neg (by omega), wI_1, if_pos ⟨rfl, rfl⟩]; rfl
    · rw [wI_1, if_neg (by omega), wI_1, if_neg (by omega), wI_1, if_neg (by omega), wI_1, if_pos ⟨rfl, rfl⟩]; rfl
  obtain ⟨σ', c, s1, s2, s3⟩ := readAll_L hx (lim := if 600 < x.1 then 600 else x.1) rfl 5000 700 0 0 _ s00 (by omega) (Nat.le_refl _) (by omega) (by omega) s00_I s00_m hr (hT.keep hf (by omega)) (by rw [wI_1, if_pos ⟨rfl, rfl⟩]; rfl)
  refine ⟨σ', c, ?_, s2, hf.trans s3⟩
  have ht1 : (wI (wI (wI σ1 3 2 0) 3 4 0) 3 5 (-1)).1 1 1 = nI x.1 := by
    rw [wI_1, if_neg (by omega), wI_1, if_neg (by omega), wI_1, if_neg (by omega), (r3 1 (by omega)).1]
    exact hT.1
  have hl : (if (600 : Int32) < nI x.1 then (600 : Int32) else nI x.1) = nI (if 600 < x.1 then 600 else x.1) := by
    rw [show (600 : Int32) = nI 600 from rfl]
    by_cases d : 600 < x.1
    · rw [lt_y d (by omega), if_pos d]
    · rw [lt_n (by omega) (by omega), if_neg d]
  unfold f_X6_readAll
  rw [r1, ob_s, nm_v, nm_v, nm_v, ht1, hl, nm_v, nm_v]
  exact s1
