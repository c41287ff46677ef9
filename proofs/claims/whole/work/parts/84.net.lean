/-! A TEXT IS THE NET NOW, on both sides -/
/-- what the reference's loop comes to -/
def outR (x : TT) (j p : Nat) (s : RS) (σ : GM) (z : Option (GM × Int32)) : Prop :=
  (∃ σ' r N, runF x j p s = .inr (r, N) ∧ z = f_X12_net_L121 σ' (nI r) ∧ rfAt σ' 63 0 N ∧ wf N ∧ σ'.1 60 8 = nI 0 ∧ keepJ σ σ') ∨
  (∃ σ' c q, runF x j p s = .inl (c, q) ∧ z = some (σ', (-1 : Int32) - nI q) ∧ σ'.1 60 8 = nI c ∧ keepJ σ σ')
theorem netR_L {x : TT} (hx : tpI x) : ∀ (k j p : Nat) (s : RS) (σ : GM), p ≤ x.1 → 641 ≤ p + j → 641 ≤ p + k → rsI s → s.e = 0 → mB s → rwR σ s → tokR σ x p → rtp σ x →
    outR x j p s σ (f_X12_net_L56 k σ (nI s.r)) := by
  have h640 := hx.1
  intro k
  induction k with
  | zero => intro j p s σ hp _ hk; omega
  | succ k ih =>
    intro j p s σ hp hj hk hI he hm hr ht hT
    have hkk := tk_le (x := x) (p := p)
    -- behind a row
    have fin : ∀ σ1 b, rowO x j p s σ σ1 b → outR x j p s σ (f_X12_net_L96 (fun σ' v1' => f_X12_net_L56 k σ' v1') σ1 (nI s.r) (nI (bI b))) := by
      rintro σ1 b ⟨h0, h1⟩
      rcases h1 with ⟨rfl, c, q, e1, e2, e3⟩ | ⟨rfl, p', s', j', e1, e2, e3, e4, e5, e6, e7, e8, e9, e10⟩
      · refine Or.inr ⟨σ1, c, q, e1, ?_, e2, h0⟩
        unfold f_X12_net_L96 f_X12_net_L108
        rw [bz_y rfl, e3]
      · have hkk' := tk_le (x := x) (p := p')
        obtain ⟨j2, rfl⟩ : ∃ j2, j' = j2 + 1 := ⟨j' - 1, by omega⟩
        unfold f_X12_net_L96 f_X12_readEnd
        rw [bz_n rfl, e9.1, show (4 : Int32) = nI 4 from rfl]
        by_cases c4 : tkK x p' = 4
        · have hF : tkF s' (tkK x p') (tkV x p') = .inr (some ((0, s'.f, s'.r + 1), s'.2)) := by rw [e8]; unfold tk3; rw [if_pos c4]
          obtain ⟨q1, q2⟩ := tk_gt (x := x) (p := p') (by omega) (by omega)
          obtain ⟨σ2, n1, n2, n3⟩ := next_at hx (hT.j h0) q2 e9.2.2.2.2
          have hk2 : keepJ σ σ2 := h0.tr (keepJ.k n3)
          have key := ih j2 (tkT x p') ((0, s'.f, s'.r + 1), s'.2) σ2 q2 (by omega) (by omega) (tkF_I e5 hF) rfl e6 (e10.k n3) n2 (hT.j hk2)
          have run : runF x j p s = runF x j2 (tkT x p') ((0, s'.f, s'.r + 1), s'.2) := e1.trans (run_s hF)
          have er : nI ((RS.r ((0, s'.f, s'.r + 1), s'.2))) = nI (s.r + 1) := by show nI (s'.r + 1) = _; rw [e7]
          rw [er] at key
          rw [eq_y c4, n1, ob_s, ob2_s, if_neg (by decide), i1, nI_add, nm_v]
          rcases key with ⟨σ', r, N, k1, k2, k3, k4, k5, k6⟩ | ⟨σ', c, q, k1, k2, k3, k4⟩
          · exact Or.inl ⟨σ', r, N, run.trans k1, k2, k3, k4, k5, hk2.tr k6⟩
          · exact Or.inr ⟨σ', c, q, run.trans k1, k2, k3, hk2.tr k4⟩
        · obtain ⟨σ', b1, b2, b3⟩ := row_bad (j0 := j) (p0 := p) (s0 := s) (c := 1) e9 h0 e1 (by
            rw [e8]; unfold tk3; rw [if_neg c4]
            split <;> rfl)
          rcases b3 with ⟨-, c, q, f1, f2, f3⟩ | ⟨z, -⟩
          · refine Or.inr ⟨σ', c, q, f1, ?_, f2, b2⟩
            unfold f_X12_net_L108
            rw [eq_n c4 (by omega) (by omega), i1, b1, ob2_s, ← i1, nI_bIm, ob2_s, bz_y rfl, f3]
          · cases z
    unfold f_X12_net_L56
    rw [ht.1]
    by_cases c0 : tkK x p = 0
    · obtain ⟨j2, rfl⟩ : ∃ j2, j = j2 + 1 := ⟨j - 1, by omega⟩
      rw [c0, if_pos (show nI 0 = 0 from rfl)]
      refine Or.inl ⟨σ, s.r, s.N, ?_, rfl, hr.1, hI.1, hr.2.2, keepJ.rf σ⟩
      rw [runF_s, c0, tkF_0, if_pos he]
      rfl
    · rw [if_neg (nI_ne0 (by omega) (by omega)), isPoint_at ht, ob_s]
      by_cases c1 : tkK x p = 2 ∧ tkV x p = WP
      · obtain ⟨σ', b, r1, r2⟩ := readPoint_R hx hI he hm hr ht hT hp hj c1.1 c1.2
        rw [decide_eq_true c1, bz_n rfl, r1, ob2_s]
        exact fin σ' b r2
      · rw [decide_eq_false c1, bz_y rfl, isLine_at ht, ob_s]
        by_cases c2 : tkK x p = 2 ∧ tkV x p = WL
        · obtain ⟨σ', b, r1, r2⟩ := readLine_R hx hI he hm hr ht hT hp hj c2.1 c2.2
          rw [decide_eq_true c2, bz_n rfl, r1, ob2_s]
          exact fin σ' b r2
        · obtain ⟨j2, rfl⟩ : ∃ j2, j = j2 + 1 := ⟨j - 1, by omega⟩
          obtain ⟨σ', b1, b2⟩ := row_bad (j0 := j2 + 1) (p0 := p) (s0 := s) (c := 1) ht (keepJ.rf σ) rfl (by
            unfold tkF tk0
            rw [if_pos he, if_neg c1, if_neg c2, if_neg c0]
            split <;> rfl)
          rw [decide_eq_false c2, bz_y rfl, i1, b1, ob2_s]
          exact fin σ' false b2
theorem netR_at {σ : GM} {A : AbS} (hM : MI σ A) (hx : tpI (A.t, A.b)) :
    (∀ r N, runF (A.t, A.b) 700 0 s00 = .inr (r, N) → N.told ≤ 12 → ∃ σ', f_X12_net σ = some (σ', nI r) ∧ MI σ' (N, (0, A.P), A.K, (0, A.b), 0) ∧ fr σ σ' 60 75) ∧
    (∀ c q, runF (A.t, A.b) 700 0 s00 = .inl (c, q) → ∃ σ', f_X12_net σ = some (σ', (-1 : Int32) - nI q) ∧ MI σ' (A.N, (A.L, A.P), A.K, (0, A.b), c) ∧ fr σ σ' 60 75) := by
  obtain ⟨g1, ⟨p1, p2, p3⟩, g3, g4, g5, g6⟩ := hM
  have h640 : A.t ≤ 640 := hx.1
  -- ahead of the loop
  have hz : ∃ τ, f_X12_net σ = f_X12_net_L32 (0 : Int32) 5000 τ (0 : Int32) ∧ τ.1 60 3 = nI A.t ∧ τ.1 60 2 = nI 0 ∧ τ.1 60 8 = nI 0 ∧ τ.1 60 4 = nI 0 ∧ τ.1 60 19 = σ.1 60 19 ∧ fr σ τ 60 61 := by
    refine ⟨wI (wI (wI (wI (wI σ 60 0 0) 60 3 (nI A.t)) 60 2 0) 60 8 0) 60 4 0, ?_, ?_, ?_, ?_, ?_, ?_, ((((fr_wI (by omega) (by omega)).trans (fr_wI (by omega) (by omega))).trans (fr_wI (by omega) (by omega))).trans (fr_wI (by omega) (by omega))).trans (fr_wI (by omega) (by omega))⟩
    · have e : (wI σ 60 0 0).1 60 2 = nI A.t := by rw [wI_1, if_neg (by omega)]; exact g4.1
      unfold f_X12_net
      rw [nm_v, e, nm_v, nm_v, nm_v, nm_v]
    · rw [wI_1, if_neg (by omega), wI_1, if_neg (by omega), wI_1, if_neg (by omega), wI_1, if_pos ⟨rfl, rfl⟩]
    · rw [wI_1, if_neg (by omega), wI_1, if_neg (by omega), wI_1, if_pos ⟨rfl, rfl⟩]; rfl
    · rw [wI_1, if_neg (by omega), wI_1, if_pos ⟨rfl, rfl⟩]; rfl
    · rw [wI_1, if_pos ⟨rfl, rfl⟩]; rfl
    · rw [wI_1, if_neg (by omega), wI_1, if_neg (by omega), wI_1, if_neg (by omega), wI_1, if_neg (by omega), wI_1, if_neg (by omega)]
  obtain ⟨τ, z1, z2, z3, z4, z5, z6, z7⟩ := hz
  have key : ∃ τ1, fr τ τ1 63 64 ∧ (∀ i, i < 159 → τ1.1 63 i = 0) ∧ f_X12_net_L32 (0 : Int32) 5000 τ (0 : Int32) = ob (f_X12_next τ1) (fun σ_8 => f_X12_net_L56 5000 σ_8 (0 : Int32)) := by
    refine lq5 159 (by omega) (fun k (a : GM) i => f_X12_net_L32 (0 : Int32) k a i) (fun q a => fr τ a 63 64 ∧ ∀ i, i < q → a.1 63 i = 0) (fun z => ∃ τ1, fr τ τ1 63 64 ∧ (∀ i, i < 159 → τ1.1 63 i = 0) ∧ z = ob (f_X12_next τ1) (fun σ_8 => f_X12_net_L56 5000 σ_8 (0 : Int32))) τ ⟨fr.rf _ _ _, fun i hi => absurd hi (by omega)⟩ ?_ ?_
    · intro k q a hq ⟨a1, a2⟩
      refine Or.inl ⟨wI a 63 q 0, ⟨a1.trans (fr_wI (by omega) (by omega)), fun i hi => ?_⟩, fun z hz => ?_⟩
      · rw [wI_1]
        by_cases e : i = q
        · rw [if_pos ⟨rfl, e⟩]
        · rw [if_neg (fun z => e z.2)]; exact a2 i (by omega)
      · unfold f_X12_net_L32
        rw [i159, le_n hq (by omega), bnd_n hq (by omega), nI_clamp (by omega), nm_v, nm_v, i1, nI_add]
        exact hz
    · intro k a ⟨a1, a2⟩
      refine ⟨a, a1, a2, ?_⟩
      show f_X12_net_L32 (0 : Int32) (k + 1) a (nI 159) = _
      unfold f_X12_net_L32
      rw [i159, le_y (Nat.le_refl 159) (by omega)]
  obtain ⟨τ1, y1, y2, y3⟩ := key
  have e60 := (y1 60 (by omega)).1
  have hT : rtp τ1 (A.t, A.b) := ⟨by rw [e60]; exact z2, fun i hi => by rw [(y1 61 (by omega)).1, (z7 61 (by omega)).1]; exact g4.2 i hi⟩
  have hr : rwR τ1 s00 := by
    refine ⟨⟨y2 0 (by omega), y2 1 (by omega), y2 2 (by omega), fun i hi => absurd hi (by show ¬ i < 0; omega), fun i hi j hj => y2 _ (by omega)⟩, fun i hi => absurd hi (by show ¬ i < 0; omega), by rw [e60]; exact z4⟩
  obtain ⟨τ2, n1, n2, n3⟩ := next_at hx hT (Nat.zero_le _) (by rw [e60]; exact z5)
  have out := netR_L hx 5000 700 0 s00 τ2 (Nat.zero_le _) (by omega) (by omega) s00_I rfl s00_m (hr.k n3) n2 (hT.k n3)
  have hnet : f_X12_net σ = f_X12_net_L56 5000 τ2 (nI s00.r) := by
    rw [z1, y3, n1, ob_s]
    rfl
  rw [← hnet] at out
  -- what stays
  have keep : ∀ σ', keepJ τ2 σ' → (∀ m, m ≠ 60 → m ≠ 63 → m ≠ 68 → σ'.1 m = σ.1 m ∧ σ'.2 m = σ.2 m) ∧ σ'.1 60 2 = nI 0 ∧ σ'.1 60 19 = σ.1 60 19 := by
    intro σ' hk
    have hk2 := (keepJ.k n3).tr hk
    refine ⟨fun m h1 h2 h3 => ?_, ?_, ?_⟩
    · have a := hk2.1 m h1 h2 h3
      have b := y1 m (by omega)
      have c := z7 m (by omega)
      exact ⟨(a.1.trans b.1).trans c.1, (a.2.trans b.2).trans c.2⟩
    · rw [hk2.2 2 (by omega), e60]; exact z3
    · rw [hk2.2 19 (by omega), e60]; exact z6
  constructor
  · intro r N hrun hN
    rcases out with ⟨σ', r', N', k1, k2, k3, k4, k5, k6⟩ | ⟨σ', c, q, k1, -⟩
    · rw [hrun] at k1
      cases k1
      obtain ⟨f1, f2, f3⟩ := keep σ' k6
      obtain ⟨σ2, a1, a2, a3, a4⟩ := copy_at (σ := σ') (qa := 63) (qb := 62) (o := 0) (o' := 0) (za := 159) (zb := 159) (by decide) rfl rfl (by omega) (by omega) (by decide) (by decide)
      have hfw : fr σ2 (wI σ2 60 19 0) 60 61 := fr_wI (by omega) (by omega)
      have ft : ∀ m, m ≠ 60 → m ≠ 62 → m ≠ 63 → m ≠ 68 → (wI σ2 60 19 0).1 m = σ.1 m ∧ (wI σ2 60 19 0).2 m = σ.2 m := by
        intro m h1 h2 h3 h4
        have a := hfw m (by omega)
        have b := a4 m (by omega)
        have c := f1 m h1 h3 h4
        exact ⟨(a.1.trans b.1).trans c.1, (a.2.trans b.2).trans c.2⟩
      refine ⟨wI σ2 60 19 0, ?_, ⟨(k3.row hN a2).keep hfw (by omega), ⟨Nat.zero_le _, by rw [wI_1, if_pos ⟨rfl, rfl⟩]; rfl, fun k hk2 => absurd hk2 (by show ¬ k < 0; omega)⟩, fun k hl => ?_, ⟨?_, fun i hi => absurd hi (by show ¬ i < 0; omega)⟩, ?_, ?_⟩, fun m hm => ft m (by omega) (by omega) (by omega) (by omega)⟩
      · rw [k2]
        unfold f_X12_net_L121
        rw [show f_X12_copy σ' 63 62 0 0 = some σ2 from a1, ob_s, nm_v]
      · rw [(ft 69 (by omega) (by omega) (by omega) (by omega)).1]
        exact ⟨(g3 k hl).1, fun e => ((g3 k hl).2 e).co (ft 64 (by omega) (by omega) (by omega) (by omega)).1⟩
      · rw [wI_1, if_neg (by omega), (a4 60 (by omega)).1]; exact f2
      · rw [wI_1, if_neg (by omega), (a4 60 (by omega)).1]; exact k5
      · rw [(ft 71 (by omega) (by omega) (by omega) (by omega)).1]; exact g6
    · rw [hrun] at k1; cases k1
  · intro c q hrun
    rcases out with ⟨σ', r', N', k1, -⟩ | ⟨σ', c', q', k1, k2, k3, k4⟩
    · rw [hrun] at k1; cases k1
    · rw [hrun] at k1
      cases k1
      obtain ⟨f1, f2, f3⟩ := keep σ' k4
      refine ⟨σ', k2, ⟨g1.co (f1 62 (by omega) (by omega) (by omega)).1, ⟨p1, by rw [f3]; exact p2, fun k hk2 => ⟨(p3 k hk2).1, (p3 k hk2).2.co (f1 65 (by omega) (by omega) (by omega)).1⟩⟩, fun k hl => ?_, ⟨f2, fun i hi => absurd hi (by show ¬ i < 0; omega)⟩, k3, ?_⟩, fun m hm => f1 m (by omega) (by omega) (by omega)⟩
      · rw [(f1 69 (by omega) (by omega) (by omega)).1]
        exact ⟨(g3 k hl).1, fun e => ((g3 k hl).2 e).co (f1 64 (by omega) (by omega) (by omega)).1⟩
      · rw [(f1 71 (by omega) (by omega) (by omega)).1]; exact g6
theorem net_ag {σ : GM} {A : AbS} (hC : CI σ A) (hM : MI σ A) : ∃ A', agI σ A' f_X11_net f_X12_net := by
  obtain ⟨⟨⟨hn, hw⟩, ⟨⟨lt, hp⟩, hpw⟩, hk, ht, hfl⟩, hc⟩ := id hC
  have hx : tpI (A.t, A.b) := ⟨ht.2.1, fun i hi => (ht.2.2 i hi).2⟩
  obtain ⟨σ1, c, r1, r2, r3⟩ := readAll_at hx ht
  have hf : fr σ (wI (wI σ1 0 10 c) 1 1 0) 0 8 := ((r3.wide (by omega) (by omega)).trans (fr_wI (by omega) (by omega))).trans (fr_wI (by omega) (by omega))
  have h010 : (wI (wI σ1 0 10 c) 1 1 0).1 0 10 = c := by rw [wI_1, if_neg (by omega), wI_1, if_pos ⟨rfl, rfl⟩]
  have h11 : (wI (wI σ1 0 10 c) 1 1 0).1 1 1 = nI 0 := by rw [wI_1, if_pos ⟨rfl, rfl⟩]; rfl
  cases hy : runF (A.t, A.b) 700 0 s00 with
  | inl y =>
    obtain ⟨d, q⟩ := y
    rw [hy] at r2
    obtain ⟨s1, s2, s3, s4⟩ := r2
    have hc0 : ¬ c = 0 := by rw [s1]; exact nI_ne0 (by omega) (by omega)
    have h33 : (wI (wI σ1 0 10 c) 1 1 0).1 3 3 = nI q := by rw [wI_1, if_neg (by omega), wI_1, if_neg (by omega)]; exact s4
    have e0 : ∀ i, i ≠ 10 → (wI (wI σ1 0 10 c) 1 1 0).1 0 i = σ.1 0 i := fun i hi => by rw [wI_1, if_neg (by omega), wI_1, if_neg (by omega), (r3 0 (by omega)).1]
    refine ⟨(A.N, (A.L, A.P), A.K, (0, A.b), d), agI_q hM ⟨wI (wI σ1 0 10 c) 1 1 0, (-1 : Int32) - nI q, ?_, ⟨⟨⟨hn.keep hf (by omega), hw⟩, ⟨⟨lt, hp.keep hf (by omega)⟩, hpw⟩, hk.keep hf (by omega), ⟨h11, Nat.zero_le _, fun i hi => absurd hi (by show ¬ i < 0; omega)⟩, by rw [h010]; exact s1⟩, ?_⟩, hf.wide (by omega) (by omega), fun τ hτ => ?_⟩⟩
    · unfold f_X11_net
      rw [r1, ob2_s, nm_v, nm_v, h010, if_neg hc0, h33]
    · obtain ⟨c1, c2, c3⟩ := hc
      refine ⟨?_, ?_, ?_⟩
      · rw [e0 11 (by omega)]; exact c1.imp id (fun x => ⟨x.1, x.2.keep hf (by omega)⟩)
      · rw [e0 12 (by omega), e0 11 (by omega)]; exact c2.imp id (fun x => ⟨x.1, x.2.1, x.2.2.keep hf (by omega)⟩)
      · rw [e0 13 (by omega)]; exact c3.imp id (fun x => ⟨x.1, x.2.keep hf (by omega)⟩)
    · exact (netR_at hτ hx).2 d q hy
  | inr y =>
    obtain ⟨r, N⟩ := y
    rw [hy] at r2
    obtain ⟨s1, s2, s3, s4⟩ := r2
    have hf48 : fr σ1 (wI (wI σ1 0 10 c) 1 1 0) 0 2 := (fr_wI (by omega) (by omega)).trans (fr_wI (by omega) (by omega))
    obtain ⟨σ2, a1, a2, a3⟩ := copyFrom_at (n := 8) (s3.keep hf48 (by omega)) s4.1 (by omega)
    obtain ⟨σ3, f1, f2, f3⟩ := forget_at ((hp.keep hf (by omega)).keep a3 (by omega))
    obtain ⟨σ4, m1, m2, m3, m4⟩ := marked_at σ3
    have hall : fr σ σ4 0 60 := (((hf.wide (by omega) (by omega)).trans (a3.wide (by omega) (by omega))).trans (f3.wide (by omega) (by omega))).trans (m3.wide (by omega) (by omega))
    have h32 : σ4.1 3 2 = nI r := by
      rw [(m3 3 (by omega)).1, (f3 3 (by omega)).1, (a3 3 (by omega)).1, (hf48 3 (by omega)).1]
      exact s2
    refine ⟨(N, (0, A.P), A.K, (0, A.b), 0), agI_q hM ⟨σ4, nI r, ?_, ⟨⟨⟨(a2.keep f3 (by omega)).keep m3 (by omega), s4⟩, ⟨⟨lt, f2.keep m3 (by omega)⟩, fun k hk2 => absurd hk2 (by show ¬ k < 0; omega)⟩, (((hk.keep hf (by omega)).keep a3 (by omega)).keep f3 (by omega)).keep m3 (by omega), ⟨?_, Nat.zero_le _, fun i hi => absurd hi (by show ¬ i < 0; omega)⟩, ?_⟩, m2 _⟩, hall, fun τ hτ => ?_⟩⟩
    · unfold f_X11_net
      rw [r1, ob2_s, nm_v, nm_v, h010, s1, if_pos (show nI 0 = 0 from rfl), ← s1, a1, ob_s, f1, ob_s, m1, ob_s, h32]
    · rw [(m3 1 (by omega)).1, (f3 1 (by omega)).1, (a3 1 (by omega)).1]
      exact h11
    · rw [m4, (f3 0 (by omega)).1, (a3 0 (by omega)).1, h010]
      exact s1
    · exact (netR_at hτ hx).1 r N hy s4.1
