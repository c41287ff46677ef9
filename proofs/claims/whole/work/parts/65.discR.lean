/-! THE DISCOUNT, its whole run in the class -/
def clD (σ : GM) (x : DT) : Prop := clP σ (x.S, x.2.2) ∧ clW σ x.S x.w ∧ σ.2 57 5 = lN x.U ∧ σ.2 57 6 = lN x.D
theorem begC_at {σ : GM} {N : NT} (hn : netAt σ 8 N) (hw : wf N) : ∃ σ', f_X0_begin σ = some σ' ∧ clD σ' (begD N) ∧ fr σ σ' 57 60 := by
  obtain ⟨h1, h2, h3, h4, h5, h6⟩ := id hn
  unfold f_X0_begin
  refine lq5 12 (by omega) (fun k (a : GM) i => f_X0_begin_L2 k a i) (fun q a => (∀ i, i < q → i < N.told → a.2 58 i = lN (N.wt i)) ∧ a.1 = σ.1 ∧ fr σ a 57 60) (fun z => ∃ σ', z = some σ' ∧ clD σ' (begD N) ∧ fr σ σ' 57 60) σ ⟨fun i hi => absurd hi (by omega), rfl, fr.rf _ _ _⟩ ?_ ?_
  · intro k q a hq ⟨g1, g2, g3⟩
    refine Or.inl ⟨wL a 58 q (σ.1 9 q).toInt64, ⟨fun i hi ht => ?_, g2, g3.trans (fr_wL (by omega) (by omega))⟩, fun z hz => ?_⟩
    · rw [wL_2]
      by_cases e : i = q
      · subst e
        have h9 := (hw.2.2.2.1 i ht).2
        rw [if_pos ⟨rfl, rfl⟩, h5 i ht, nI_l (by omega)]
      · rw [if_neg (fun x => e x.2)]; exact g1 i (by omega) ht
    · unfold f_X0_begin_L2
      rw [i12, le_n hq (by omega), weightOf_at hq, ob_s, bnd_n hq (by omega), nI_clamp (by omega), g2, nm_v, nm_v, i1, nI_add]
      exact hz
  · intro k a ⟨g1, g2, g3⟩
    have e8 : a.1 8 3 = nI N.here := by rw [g2]; exact h2
    refine ⟨wL (wL (wI (wI a 57 3 (nI N.here)) 57 2 0) 57 5 0) 57 6 1, ?_, ⟨⟨?_, ?_, fun i hi => absurd hi (by show ¬ i < 0; omega)⟩, fun i hi => ?_, ?_, ?_⟩, g3.trans ((((fr_wI (by omega) (by omega)).trans (fr_wI (by omega) (by omega))).trans (fr_wL (by omega) (by omega))).trans (fr_wL (by omega) (by omega)))⟩
    · show f_X0_begin_L2 (k + 1) a (nI 12) = _
      unfold f_X0_begin_L2 f_X0_begin_L29
      rw [i12, le_y (Nat.le_refl 12) (by omega), e8, nm_v, nm_v, nm_v, nm_v]
    · show (wI (wI a 57 3 (nI N.here)) 57 2 0).1 57 3 = _
      rw [wI_1, if_neg (by omega), wI_1, if_pos ⟨rfl, rfl⟩]
      rfl
    · show (wI (wI a 57 3 (nI N.here)) 57 2 0).1 57 2 = _
      rw [wI_1, if_pos ⟨rfl, rfl⟩]; rfl
    · rw [wL_2, if_neg (by omega), wL_2, if_neg (by omega)]
      exact g1 i (tb_lt (n := 12) hi hw.h4096) (here_told hw hi)
    · rw [wL_2, if_neg (by omega), wL_2, if_pos ⟨rfl, rfl⟩]; rfl
    · rw [wL_2, if_pos ⟨rfl, rfl⟩]; rfl
theorem nI_m (x : Int32) : x - 1 = x + (-1) := Int32.sub_eq_add_neg x 1
theorem orD_lt {f : Nat → Nat} : ∀ c, (∀ i, i < c → f i < 12) → orD f c < 4096 := by
  intro c
  induction c with
  | zero => intro _; exact (by decide : 0 < 4096)
  | succ c ih =>
    intro h
    rw [orD]
    exact Nat.or_lt_two_pow (n := 12) (ih (fun i hi => h i (by omega))) (p2_lt (h c (by omega)))
def only574 (σ σ' : GM) : Prop := (∀ m i, ¬ (m = 57 ∧ i = 4) → σ'.1 m i = σ.1 m i) ∧ σ'.2 = σ.2
theorem only574.rf (σ : GM) : only574 σ σ := ⟨fun _ _ _ => rfl, rfl⟩
theorem only574.tr {a b c : GM} (h : only574 a b) (g : only574 b c) : only574 a c := ⟨fun m i hm => (g.1 m i hm).trans (h.1 m i hm), g.2.trans h.2⟩
theorem only574.w {σ : GM} {v : Int32} : only574 σ (wI σ 57 4 v) := ⟨fun m i h => by rw [wI_1, if_neg h], rfl⟩
theorem only574.f {σ σ' : GM} (h : only574 σ σ') : fr σ σ' 57 60 := fun m hm => ⟨by funext i; exact h.1 m i (by omega), by rw [h.2]⟩
theorem backC_L {B : Nat → Nat → Nat} {h c : Nat} {f : Nat → Nat} (hh : h < 4096) (hc : c ≤ 12) (hf : ∀ i, i < c → f i < 12) : ∀ (q k s : Nat) (σ : GM), q ≤ c → q < k → s < 4096 → frT σ B h → (∀ i, i < c → σ.1 59 i = nI (f i)) → σ.1 57 4 = nI s →
    ∃ σ', f_X0_giveBack_L62 (nI h) k σ (nI q + (-1)) = some σ' ∧ σ'.1 57 4 = nI (rvD B h f q s) ∧ only574 σ σ' := by
  intro q
  induction q with
  | zero =>
    intro k s σ _ hk _ _ _ h4
    obtain ⟨k, rfl⟩ : ∃ k', k = k' + 1 := ⟨k - 1, by omega⟩
    refine ⟨σ, ?_, h4, only574.rf σ⟩
    unfold f_X0_giveBack_L62
    rw [if_pos nI_dn0]
  | succ q ih =>
    intro k s σ hq hk hs hT hP h4
    obtain ⟨k, rfl⟩ : ∃ k', k = k' + 1 := ⟨k - 1, by omega⟩
    have hq0 : ¬ nI q < 0 := nI_pos (by omega)
    have hfq := hf q (by omega)
    have hds := dif_lt (b := 2 ^ f q) (n := 12) hs
    have hcell := hT (dif h (dif s (2 ^ f q))) (dif_sub hh)
    have hd4 := dif_lt (b := dif s (2 ^ f q)) (n := 12) hh
    rw [nI_dn]
    cases hB : fB B (dif h (dif s (2 ^ f q))) with
    | false =>
      obtain ⟨σ', r1, r2, r3⟩ := ih k s σ (by omega) (by omega) hs hT hP h4
      refine ⟨σ', ?_, ?_, r3⟩
      · unfold f_X0_giveBack_L62
        rw [if_neg hq0, bnd_n (by omega) (by omega), nI_clamp (by omega), hP q (by omega), h4, nI_bit hfq, nI_dif, nm_v, nI_dif, isFree_at hd4 hcell, ob_s, bz_y hB, nm_v]
        exact r1
      · rw [rvD, hB]; exact r2
    | true =>
      obtain ⟨σ', r1, r2, r3⟩ := ih k (dif s (2 ^ f q)) (wI σ 57 4 (nI (dif s (2 ^ f q)))) (by omega) (by omega) hds (fun S hS => by rw [only574.w.1 50 S (by omega)]; exact hT S hS) (fun i hi => by rw [only574.w.1 59 i (by omega)]; exact hP i hi) (by rw [wI_1, if_pos ⟨rfl, rfl⟩])
      refine ⟨σ', ?_, ?_, only574.w.tr r3⟩
      · unfold f_X0_giveBack_L62
        rw [if_neg hq0, bnd_n (by omega) (by omega), nI_clamp (by omega), hP q (by omega), h4, nI_bit hfq, nI_dif, nm_v, nI_dif, isFree_at hd4 hcell, ob_s, bz_n hB, nm_v, nm_v]
        exact r1
      · rw [rvD, hB]; exact r2
theorem backC_at {σ : GM} {B : Nat → Nat → Nat} {h S c : Nat} {f : Nat → Nat} (hh : h < 4096) (hc : c ≤ 12) (hf : ∀ i, i < c → f i < 12) (hT : frT σ B h) (hP : clP σ (S, c, f)) :
    ∃ σ', f_X0_giveBack σ (nI h) = some σ' ∧ σ'.1 57 4 = nI (rvD B h f c (orD f c)) ∧ only574 σ σ' := by
  obtain ⟨p1, p2, p3⟩ := hP
  unfold f_X0_giveBack
  rw [nm_v]
  refine lq5 c (by omega) (fun k (a : GM) i => f_X0_giveBack_L7 (nI h) k a i) (fun q a => a.1 57 4 = nI (orD f q) ∧ only574 σ a) (fun z => ∃ σ', z = some σ' ∧ σ'.1 57 4 = nI (rvD B h f c (orD f c)) ∧ only574 σ σ') (wI σ 57 4 0) ⟨by rw [wI_1, if_pos ⟨rfl, rfl⟩]; rfl, only574.w⟩ ?_ ?_
  · intro k q a hq ⟨g1, g2⟩
    refine Or.inl ⟨wI a 57 4 (nI (orD f (q + 1))), ⟨by rw [wI_1, if_pos ⟨rfl, rfl⟩], g2.tr only574.w⟩, fun z hz => ?_⟩
    have a2 : a.1 57 2 = nI c := by rw [g2.1 57 2 (by omega)]; exact p2
    have a3 : a.1 59 q = nI (f q) := by rw [g2.1 59 q (by omega)]; exact p3 q hq
    unfold f_X0_giveBack_L7
    rw [a2, le_n hq (by omega), i12, le_n (by omega) (by omega), bnd_n (by omega) (by omega), nI_clamp (by omega), a3, g1, nI_set (hf q hq), nm_v, nm_v, i1, nI_add]
    exact hz
  · intro k a ⟨g1, g2⟩
    have a2 : a.1 57 2 = nI c := by rw [g2.1 57 2 (by omega)]; exact p2
    obtain ⟨σ', r1, r2, r3⟩ := backC_L hh hc hf c 5000 (orD f c) a (Nat.le_refl c) (by omega) (orD_lt c hf) (fun S hS => by rw [g2.1 50 S (by omega)]; exact hT S hS) (fun i hi => by rw [g2.1 59 i (by omega)]; exact p3 i hi) g1
    refine ⟨σ', ?_, r2, g2.tr r3⟩
    show f_X0_giveBack_L7 (nI h) (k + 1) a (nI c) = _
    unfold f_X0_giveBack_L7 f_X0_giveBack_L47
    rw [a2, le_y (Nat.le_refl c) (by omega), i12, lt_n hc (by omega), nm_v, nI_m]
    exact r1
theorem rnD_z {B : Nat → Nat → Nat} {x : DT} (h : x.S = 0) : ∀ j, rnD B (j + 1) x = x := by
  intro j
  have hc : coD B x.S = 0 := by
    rw [h]
    refine (coD_eq (B := B) ⟨fun _ z => z, fun i hi => ?_, fun U hU _ => hU⟩).symm
    rw [Nat.zero_testBit] at hi; cases hi
  rw [rnD_0 hc, ← h]
theorem only57.f {σ σ' : GM} (h : only57 σ σ') : fr σ σ' 57 60 := fun m hm => ⟨by funext i; exact h.1 m i (by omega), by rw [h.2]⟩
theorem stD_is {N : NT} {x : DT} {r p : Nat} (hrg : r = rgD N.bt x.S) (e2 : piv N.bt x.S x.w = p) :
    stD N.bt x.S x = (((pilF (dW (cS x.S r) (cO N.bt x.S r) p x.w) 12 (x.S, x.2.2)).1, dW (cS x.S r) (cO N.bt x.S r) p x.w), (x.D * cO N.bt x.S r p, x.U * cO N.bt x.S r p + x.w p * cM N.bt x.S r), (pilF (dW (cS x.S r) (cO N.bt x.S r) p x.w) 12 (x.S, x.2.2)).2) := by
  subst hrg
  subst e2
  rfl
theorem dW_lt {C p : Nat} {o w : Nat → Nat} {i D : Nat} (h : w i ≤ 9 * D) (ho : o p ≤ 5) (hD : D ≤ 2 ^ 20) : dW C o p w i < 2 ^ 50 := by
  have h1 : w i * o p ≤ 9 * D * 5 := Nat.mul_le_mul h ho
  unfold dW
  split <;> omega
/-- a step of the class's, behind the stripping -/
theorem stepC1 {N : NT} (hw : wf N) {x : DT} {σ : GM} (hn : netAt σ 8 N) (hk : ringsOK σ N.bt N.here) (hI : dInv N x) (h0 : x.S ≠ 0) (hb : bzy N.bt x.S) (hx : clD σ x) :
    ∃ r σ1 σ2, f_X0_leastOpenRing σ = some (nI r) ∧ r < 4096 ∧ (if r = 0 then f_X0_takeFromAll σ else f_X0_takeFromRing σ (nI r)) = some σ1 ∧ f_X0_pileWeightless σ1 = some σ2 ∧ clD σ2 (stD N.bt x.S x) ∧ fr σ σ2 57 60 ∧ dInv N (stD N.bt x.S x) ∧ pc (stD N.bt x.S x).S 12 < pc x.S 12 := by
  obtain ⟨⟨x1, x2, x3⟩, xW, xU, xD⟩ := hx
  have hS4 := subS_lt hI.1 hw.h4096
  have hD20 := dInv_lt hI
  obtain ⟨r, r1, r2⟩ := openRing_at hn hw hk hS4 x1
  obtain ⟨p, e1, e2, e3, e4, e5, e6, e7, e8, e9, e10⟩ := stD_facts hw (w := x.w) hI.1 h0 hb r2
  have hrg := rgD_eq r2
  have hr4 : r < 4096 := by
    rcases r2 with ⟨z, -⟩ | ⟨-, z, -⟩
    · omega
    · exact subS_lt z hS4
  have hst := stD_is (x := x) hrg e2
  have hinv := dInv_step hw hI h0 hb r2
  have hwl : ∀ i, x.S.testBit i = true → x.w i < 2 ^ 50 := fun i hi => by have := hI.2.2.2.1 i hi; omega
  have hop := e7 p e4
  have take : ∃ σ1, (if r = 0 then f_X0_takeFromAll σ else f_X0_takeFromRing σ (nI r)) = some σ1 ∧ clW σ1 x.S (dW (cS x.S r) (cO N.bt x.S r) p x.w) ∧ σ1.2 57 5 = lN (x.U * cO N.bt x.S r p + x.w p * cM N.bt x.S r) ∧ σ1.2 57 6 = lN (x.D * cO N.bt x.S r p) ∧ σ1.1 = σ.1 ∧ (∀ m, m ≠ 57 → m ≠ 58 → σ1.2 m = σ.2 m) := by
    by_cases c : r = 0
    · rw [if_pos c]
      have c1 : cS x.S r = x.S := if_pos c
      have c2 : cM N.bt x.S r = eS N.bt x.S / 2 + CC N.bt x.S - pc x.S 12 := if_pos c
      rw [c1, c2]
      rw [c1] at e1 e9
      refine allC_at hn.2.2.2.2.2 hw.b20 hw.2.2.2.2.1 hS4 x1 e10 (fun i hi => ?_) e7 hwl e1 e4 e9 xW xU xD
      have := hb i hi
      unfold cO
      rw [if_pos c]
      omega
    · rw [if_neg c]
      have c1 : cS x.S r = r := if_neg c
      have c2 : cM N.bt x.S r = 1 := if_neg c
      have c3 : cO N.bt x.S r = fun _ => 1 := by funext i; exact if_neg c
      rw [c1, c2, c3, Nat.mul_one, Nat.mul_one, Nat.mul_one]
      rw [c1, c3] at e1
      rw [c1] at e6
      rw [c1, c3] at e9
      obtain ⟨σ1, s1, s2, s3, s4, s5⟩ := ringC_at hr4 e6 (fun i hi => Nat.lt_trans (hwl i hi) (by decide)) e1 (fun i hi => by have h9 : x.w p * 1 ≤ x.w i * 1 := e9 i hi; omega) xW xU
      exact ⟨σ1, s1, s2, s3, by rw [s5 57 6 (by omega)]; exact xD, s4, fun m h1 h2 => by funext i; exact s5 m i (by omega)⟩
  obtain ⟨σ1, t1, t2, t3, t4, t5, t6⟩ := take
  obtain ⟨σ2, u1, u2, u3, u4, u5⟩ := pileC_at (y := (x.S, x.2.2)) (σ := σ1) hS4 (fun i hi => Nat.lt_trans (dW_lt (hI.2.2.2.1 i hi) hop.2 hD20) (by decide)) hI.2.2.2.2.2.1 ⟨by rw [t5]; exact x1, by rw [t5]; exact x2, fun i hi => by rw [t5]; exact x3 i hi⟩ t2
  obtain ⟨q1, q2, q3⟩ := pilF_ok (w := dW (cS x.S r) (cO N.bt x.S r) p x.w) 12 (x.S, x.2.2) (Nat.le_refl _) hS4 hI.2.2.2.2.2.2
  refine ⟨r, σ1, σ2, r1, hr4, t1, u1, ?_, ?_, hinv.1, hinv.2⟩
  · rw [hst]
    refine ⟨u2, fun i hi => ?_, by rw [u4]; exact t3, by rw [u4]; exact t4⟩
    rw [u4]
    exact t2 i ((q1 i).mp hi).1
  · refine fr.trans (σ2 := σ1) ?_ u3
    intro m hm
    exact ⟨by rw [t5], t6 m (by omega) (by omega)⟩
theorem runC_L {N : NT} (hw : wf N) : ∀ (j k q : Nat) (x : DT) (σ : GM), q + j = 13 → q ≤ 12 → 12 < q + k → netAt σ 8 N → ringsOK σ N.bt N.here → dInv N x → pc x.S 12 + q ≤ 12 → clD σ x →
    ∃ σ', f_X0_run_L7 k σ (nI q) = f_X0_run_L69 σ' ∧ clD σ' (rnD N.bt j x) ∧ dInv N (rnD N.bt j x) ∧ fr σ σ' 57 60 := by
  intro j
  induction j with
  | zero => intro k q x σ h1 h2; omega
  | succ j ih =>
    intro k q x σ hj hq hk hn hr hI hp hx
    obtain ⟨k, rfl⟩ : ∃ k', k = k' + 1 := ⟨k - 1, by omega⟩
    have hS4 := subS_lt hI.1 hw.h4096
    have stop : x.S = 0 → f_X0_run_L7 (k + 1) σ (nI q) = f_X0_run_L69 σ → ∃ σ', f_X0_run_L7 (k + 1) σ (nI q) = f_X0_run_L69 σ' ∧ clD σ' (rnD N.bt (j + 1) x) ∧ dInv N (rnD N.bt (j + 1) x) ∧ fr σ σ' 57 60 := fun h e => by
      rw [rnD_z h]; exact ⟨σ, e, hx, hI, fr.rf _ _ _⟩
    by_cases c : q = 12
    · subst c
      have h0 : x.S = 0 := Classical.byContradiction (fun z => by have := pc_pos hS4 z; omega)
      refine stop h0 ?_
      unfold f_X0_run_L7
      rw [i12, le_y (Nat.le_refl 12) (by omega)]
    · by_cases h0 : x.S = 0
      · refine stop h0 ?_
        unfold f_X0_run_L7
        rw [i12, le_n (by omega) (by omega), hx.1.1]
        show (if nI x.S = 0 then _ else _) = _
        rw [h0, if_pos (show nI 0 = 0 from rfl)]
      · obtain ⟨σ1, T, s1, s2, s3, s4⟩ := strip_at hn.2.2.2.2.2 hw.b20 hS4 hx.1.1
        have hT := coD_eq s3
        have hTS := s3.1
        have hT4 := subS_lt hTS hS4
        have f1 := s4.f
        have hn1 := hn.keep f1 (by omega)
        have hr1 := hr.keep f1 (by omega)
        have hIT := dInv_sub hI hTS
        have hpT := pc_sub hTS
        have hxT : clD σ1 ((T, x.w), x.2) := ⟨⟨s2, by rw [s4.1 57 2 (by omega)]; exact hx.1.2.1, fun i hi => by rw [s4.1 59 i (by omega)]; exact hx.1.2.2 i hi⟩, fun i hi => by rw [s4.2]; exact hx.2.1 i (hTS i hi), by rw [s4.2]; exact hx.2.2.1, by rw [s4.2]; exact hx.2.2.2⟩
        have hne : ¬ nI x.S = 0 := nI_ne0 (by omega) (by omega)
        obtain ⟨j', rfl⟩ : ∃ j', j = j' + 1 := ⟨j - 1, by omega⟩
        by_cases t0 : T = 0
        · obtain ⟨σ', r1, r2, r3, r4⟩ := ih k (q + 1) ((T, x.w), x.2) σ1 (by omega) (by omega) (by omega) hn1 hr1 hIT (by show pc T 12 + (q + 1) ≤ 12; rw [t0, pc0]; omega) hxT
          have e1 : rnD N.bt (j' + 1 + 1) x = rnD N.bt (j' + 1) ((T, x.w), x.2) := by
            rw [rnD_0 (by rw [← hT]; exact t0), rnD_z (x := ((T, x.w), x.2)) t0, t0]
          rw [e1]
          refine ⟨σ', ?_, r2, r3, f1.trans r4⟩
          unfold f_X0_run_L7
          rw [i12, le_n (by omega) (by omega), hx.1.1]
          show (if nI x.S = 0 then _ else _) = _
          rw [if_neg hne, s1, ob_s, s2, t0, if_pos (show nI 0 = 0 from rfl), nm_v, i1, nI_add]
          exact r1
        · obtain ⟨r, σ2, σ3, a1, a2, a3, a4, a5, a6, a7, a8⟩ := stepC1 hw (x := ((T, x.w), x.2)) hn1 hr1 hIT t0 s3.2.1 hxT
          have a8 : pc (stD N.bt T ((T, x.w), x.2)).S 12 < pc T 12 := a8
          have e1 : rnD N.bt (j' + 1 + 1) x = rnD N.bt (j' + 1) (stD N.bt T ((T, x.w), x.2)) := by
            rw [rnD_s (by rw [← hT]; exact t0), ← hT]
            rfl
          rw [e1]
          obtain ⟨σ', r1, r2, r3, r4⟩ := ih k (q + 1) (stD N.bt T ((T, x.w), x.2)) σ3 (by omega) (by omega) (by omega) (hn1.keep a6 (by omega)) (hr1.keep a6 (by omega)) a7 (by omega) a5
          refine ⟨σ', ?_, r2, r3, (f1.trans a6).trans r4⟩
          have hTn : ¬ nI T = 0 := nI_ne0 (by omega) (by omega)
          unfold f_X0_run_L7
          rw [i12, le_n (by omega) (by omega), hx.1.1]
          show (if nI x.S = 0 then _ else _) = _
          rw [if_neg hne, s1, ob_s, s2, if_neg hTn, a1, ob_s]
          by_cases c0 : r = 0
          · rw [if_pos c0] at a3
            rw [c0, if_pos (show nI 0 = 0 from rfl), a3, ob_s, a4, ob_s, nm_v, i1, nI_add]
            exact r1
          · rw [if_neg c0] at a3
            rw [if_neg (nI_ne0 (by omega) (by omega)), a3, ob_s, a4, ob_s, nm_v, i1, nI_add]
            exact r1
/-- the discount is known -/
def discOK (σ : GM) (N : NT) : Prop := σ.1 57 4 = nI (nearD N) ∧ σ.2 57 5 = lN (endD N).U ∧ σ.2 57 6 = lN (endD N).D
theorem runC_at {N : NT} (hw : wf N) {σ : GM} (hn : netAt σ 8 N) (hr : ringsOK σ N.bt N.here) : ∃ σ', f_X0_run σ = some σ' ∧ discOK σ' N ∧ dInv N (endD N) ∧ fr σ σ' 57 60 := by
  obtain ⟨σ1, b1, b2, b3⟩ := begC_at hn hw
  have hn1 := hn.keep b3 (by omega)
  have hr1 := hr.keep b3 (by omega)
  obtain ⟨σ2, r1, r2, r3, r4⟩ := runC_L hw 13 5000 0 (begD N) σ1 (by omega) (by omega) (by omega) hn1 hr1 (dInv_beg hw) (by have := pc_le N.here 12; show pc N.here 12 + 0 ≤ 12; omega) b2
  have hn2 := hn1.keep r4 (by omega)
  have hr2 := hr1.keep r4 (by omega)
  obtain ⟨σ3, g1, g2, g3⟩ := backC_at (S := (rnD N.bt 13 (begD N)).S) (c := (rnD N.bt 13 (begD N)).c) (f := (rnD N.bt 13 (begD N)).f) hw.h4096 (by have := r3.2.2.2.2.2.1; omega) r3.2.2.2.2.2.2 hr2.1 r2.1
  refine ⟨σ3, ?_, ⟨g2, by rw [g3.2]; exact r2.2.2.1, by rw [g3.2]; exact r2.2.2.2⟩, r3, (b3.trans r4).trans g3.f⟩
  unfold f_X0_run
  rw [b1, ob_s]
  show f_X0_run_L7 5000 σ1 (nI 0) = some σ3
  rw [r1]
  unfold f_X0_run_L69
  rw [hn2.2.1, g1, ob_s]
