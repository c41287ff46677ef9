/-! THE DISCOUNT, its whole run in the reference -/
def rfP (σ : GM) (y : Nat × (Nat → Nat)) : Prop := σ.1 60 28 = nI y.1 ∧ ∀ i, i < y.1 → σ.1 74 i = nI (y.2 i)
/-- words other than those of the pile stay -/
def keepQ (σ σ' : GM) : Prop := (∀ m i, ¬ (m = 60 ∧ i = 28) → m ≠ 74 → σ'.1 m i = σ.1 m i) ∧ ∀ c j, ¬ (c = 72 ∨ c = 73 ∨ c = 60) → σ'.2 c j = σ.2 c j
theorem keepQ.rf (σ : GM) : keepQ σ σ := ⟨fun _ _ _ _ => rfl, fun _ _ _ => rfl⟩
theorem keepQ.tr {a b c : GM} (h : keepQ a b) (g : keepQ b c) : keepQ a c := ⟨fun m i h1 h2 => (g.1 m i h1 h2).trans (h.1 m i h1 h2), fun m j h1 => (g.2 m j h1).trans (h.2 m j h1)⟩
theorem keepQ.eq {a b : GM} (h : keepF a b) : keepQ a b := ⟨fun m i _ _ => by rw [h.1], h.2⟩
theorem rbB.kq {σ σ' : GM} {B : Nat → Nat → Nat} (h : rbB σ 62 B) (hk : keepQ σ σ') : rbB σ' 62 B := fun i hi j hj => by rw [hk.1 62 _ (by omega) (by omega)]; exact h i hi j hj
theorem isRt.kq {σ σ' : GM} {B : Nat → Nat → Nat} (h : isRt σ B) (hk : keepQ σ σ') : isRt σ' B := fun S hS => by rw [hk.1 70 S (by omega) (by omega)]; exact h S hS
theorem pileR_L {w : Nat → Nat} {S0 : Nat} (hS0 : S0 < 4096) (K : GM → Int32 → Option (GM × Int32)) : ∀ (q k : Nat) (y : PiT) (σ : GM), q ≤ 12 → q < k → subS y.1 S0 → y.2.1 + pc y.1 12 ≤ 12 → rfP σ y.2 → (∀ i, S0.testBit i = true → ∃ n, σ.2 72 i = lN n ∧ n < 2 ^ 63 ∧ (n = 0 ↔ w i = 0)) →
    ∃ σ', f_X12_laysNear_L76 K k σ (nI y.1) (nI q + (-1)) = f_X12_laysNear_L136 K σ' (nI (pilF w q y).1) ∧ rfP σ' (pilF w q y).2 ∧ keepQ σ σ' ∧ σ'.2 = σ.2 := by
  intro q
  induction q with
  | zero =>
    intro k y σ _ hk _ _ hP _
    obtain ⟨k, rfl⟩ : ∃ k', k = k' + 1 := ⟨k - 1, by omega⟩
    refine ⟨σ, ?_, hP, keepQ.rf σ, rfl⟩
    conv => lhs; unfold f_X12_laysNear_L76
    rw [if_pos nI_dn0]
    rfl
  | succ q ih =>
    intro k y σ hq hk hs hc hP hW
    obtain ⟨k, rfl⟩ : ∃ k', k = k' + 1 := ⟨k - 1, by omega⟩
    have hy4 := subS_lt hs hS0
    obtain ⟨g2, g3⟩ := hP
    have hq0 : ¬ nI q < 0 := nI_pos (by omega)
    rw [nI_dn]
    by_cases c : (y.1.testBit q && decide (w q = 0)) = true
    · have e1 : pil1 w q y = (dif y.1 (2 ^ q), y.2.1 + 1, fun i => if i = y.2.1 then q else y.2.2 i) := by unfold pil1; rw [if_pos c]
      rw [Bool.and_eq_true, decide_eq_true_iff] at c
      obtain ⟨c1, c2⟩ := c
      have hpt := pc_tip hy4 c1
      obtain ⟨n, n1, n2, n3⟩ := hW q (hs q c1)
      have hP' : rfP (wI (wI σ 74 y.2.1 (nI q)) 60 28 (nI (y.2.1 + 1))) (y.2.1 + 1, fun i => if i = y.2.1 then q else y.2.2 i) := by
        refine ⟨?_, fun i hi => ?_⟩
        · rw [wI_1, if_pos ⟨rfl, rfl⟩]
        · have hi : i < y.2.1 + 1 := hi
          rw [wI_1, if_neg (by omega), wI_1]
          show _ = nI (if i = y.2.1 then q else y.2.2 i)
          by_cases e : i = y.2.1
          · rw [if_pos ⟨rfl, e⟩, if_pos e]
          · rw [if_neg (fun z => e z.2), if_neg e]
            exact g3 i (by omega)
      obtain ⟨σ', r1, r2, r3, r4⟩ := ih k (pil1 w q y) (wI (wI σ 74 y.2.1 (nI q)) 60 28 (nI (y.2.1 + 1))) (by omega) (by omega) (by rw [e1]; exact subS_tr (dif_sub hy4) hs) (by rw [pil1_c hy4]; exact hc) (by rw [e1]; exact hP') (fun i hi => hW i hi)
      refine ⟨σ', ?_, r2, ⟨fun m i h1 h2 => ?_, fun m j h1 => by rw [r4]; rfl⟩, r4⟩
      · conv => lhs; unfold f_X12_laysNear_L76
        rw [if_neg hq0, has_at hy4 (by omega), ob_s, bz_n c1, bnd_n (by omega) (by omega), nI_clamp (by omega), n1, lcw_y (n3.mpr c2), g2, bnd_n (by omega) (by omega), nI_clamp (by omega), nm_v]
        have h2 : (wI σ 74 y.2.1 (nI q)).1 60 28 = nI y.2.1 := by rw [wI_1, if_neg (by omega)]; exact g2
        rw [h2, i1, nI_add, nm_v, ← i1, nI_bit (by omega), nI_dif, nm_v, nm_v]
        rw [e1] at r1
        show _ = f_X12_laysNear_L136 K σ' (nI (pilF w q (pil1 w q y)).1)
        rw [e1]
        exact r1
      · rw [r3.1 m i h1 h2, wI_1, if_neg h1, wI_1, if_neg (fun z => h2 z.1)]
    · have e1 : pil1 w q y = y := by unfold pil1; rw [if_neg c]
      obtain ⟨σ', r1, r2, r3, r4⟩ := ih k y σ (by omega) (by omega) hs hc ⟨g2, g3⟩ hW
      refine ⟨σ', ?_, by rw [pilF, e1]; exact r2, r3, r4⟩
      rw [pilF, e1]
      conv => lhs; unfold f_X12_laysNear_L76
      rw [if_neg hq0, has_at hy4 (by omega), ob_s]
      cases d : y.1.testBit q with
      | false => rw [bz_y rfl, nm_v]; exact r1
      | true =>
        obtain ⟨n, n1, n2, n3⟩ := hW q (hs q d)
        have hw0 : w q ≠ 0 := fun z => c (by rw [d, decide_eq_true z]; rfl)
        rw [bz_n rfl, bnd_n (by omega) (by omega), nI_clamp (by omega), n1, lcz_n (fun z => hw0 (n3.mp z)) n2, nm_v]
        exact r1
def rfD (σ : GM) (x : DT) : Prop := rfW σ x.S x.w x.D ∧ rfU σ x.U x.D ∧ rfP σ x.2.2
theorem frc_0 {n d w D : Nat} (h : frc n d w D) (hD : 0 < D) : n = 0 ↔ w = 0 := by
  obtain ⟨h1, h2, -⟩ := h
  constructor
  · rintro rfl
    rw [Nat.zero_mul] at h2
    rcases Nat.eq_zero_or_pos w with z | z
    · exact z
    · have := Nat.mul_pos z h1; omega
  · rintro rfl
    rw [Nat.zero_mul] at h2
    rcases Nat.eq_zero_or_pos n with z | z
    · exact z
    · have := Nat.mul_pos z hD; omega
/-- a step of the reference's -/
theorem stepR1 {N : NT} (hw : wf N) {x : DT} {σ : GM} (hB : rbB σ 62 N.bt) (hR : isRt σ N.bt) (hI : dInv N x) (h0 : x.S ≠ 0) (hb : bzy N.bt x.S) (hx : rfD σ x) (K : GM → Int32 → Option (GM × Int32)) :
    ∃ σ1 σ2, f_X12_sinks σ (nI x.S) = some σ1 ∧ f_X12_laysNear_L76 K 5000 σ1 (nI x.S) (11 : Int32) = f_X12_laysNear_L136 K σ2 (nI (stD N.bt x.S x).S) ∧ rfD σ2 (stD N.bt x.S x) ∧ keepQ σ σ2 ∧ dInv N (stD N.bt x.S x) ∧ pc (stD N.bt x.S x).S 12 < pc x.S 12 := by
  obtain ⟨xW, xU, xP⟩ := hx
  have hS4 := subS_lt hI.1 hw.h4096
  have hD20 := dInv_lt hI
  have hD0 := hI.2.1
  obtain ⟨r, r1, r2⟩ := thinRing_at hB hw.b20 hR (isR0 hw) hS4
  obtain ⟨p, e1, e2, e3, e4, e5, e6, e7, e8, e9, e10⟩ := stD_facts hw (w := x.w) hI.1 h0 hb r2
  have hrg := rgD_eq r2
  have hr4 : r < 4096 := by
    rcases r2 with ⟨z, -⟩ | ⟨-, z, -⟩
    · omega
    · exact subS_lt z hS4
  have hst := stD_is (x := x) hrg e2
  have hinv := dInv_step hw hI h0 hb r2
  have hU : x.U ≤ 2160 * x.D := by have := hI.2.2.2.2.1; omega
  obtain ⟨σ1, s1, s2, s3, s4⟩ := sinks_15 hB hw.b20 hw.2.2.2.2.1 hS4 hr4 e6 e10 e8 hD0 hD20 e7 hU hI.2.2.2.1 e1 e5 e9 xW xU hb
  have hDo : 0 < x.D * cO N.bt x.S r p := Nat.mul_pos hD0 (e7 p e4).1
  have hk1 : σ1.1 = σ.1 := s4.1
  obtain ⟨σ2, u1, u2, u3, u4⟩ := pileR_L (w := dW (cS x.S r) (cO N.bt x.S r) p x.w) hS4 K 12 5000 (x.S, x.2.2) σ1 (by omega) (by omega) (fun _ h => h) hI.2.2.2.2.2.1 ⟨by rw [hk1]; exact xP.1, fun i hi => by rw [hk1]; exact xP.2 i hi⟩ (fun i hi => by
    obtain ⟨n, d, a1, a2, a3⟩ := s2 i hi
    have := dW_lt (C := cS x.S r) (p := p) (o := cO N.bt x.S r) (hI.2.2.2.1 i hi) (e7 p e4).2 hD20
    have := (frc_b a3 hDo).2
    exact ⟨n, a1, by omega, frc_0 a3 hDo⟩)
  obtain ⟨q1, q2, q3⟩ := pilF_ok (w := dW (cS x.S r) (cO N.bt x.S r) p x.w) 12 (x.S, x.2.2) (Nat.le_refl _) hS4 hI.2.2.2.2.2.2
  refine ⟨σ1, σ2, ?_, ?_, ?_, (keepQ.eq s4).tr u3, hinv.1, hinv.2⟩
  · unfold f_X12_sinks
    rw [r1, ob_s]
    by_cases c : r = 0
    · have c1 : cS x.S r = x.S := if_pos c
      rw [c1] at s1
      rw [if_pos (show nI r = 0 by rw [c]; rfl)]
      exact s1
    · have c1 : cS x.S r = r := if_neg c
      rw [c1] at s1
      rw [if_neg (nI_ne0 (by omega) (by omega))]
      exact s1
  · rw [hst]
    exact u1
  · rw [hst]
    refine ⟨fun i hi => ?_, ?_, u2⟩
    · rw [u4]
      exact s2 i ((q1 i).mp hi).1
    · show rfU σ2 _ _
      unfold rfU
      rw [u4]
      exact s3
theorem runR_L {N : NT} (hw : wf N) : ∀ (j k : Nat) (x : DT) (σ : GM), pc x.S 12 < j → pc x.S 12 < k → rbB σ 62 N.bt → isRt σ N.bt → dInv N x → rfD σ x →
    ∃ σ', f_X12_laysNear_L64 k σ (nI (coD N.bt x.S)) = f_X12_laysNear_L145 σ' ∧ rfU σ' (rnD N.bt j x).U (rnD N.bt j x).D ∧ rfP σ' (rnD N.bt j x).2.2 ∧ dInv N (rnD N.bt j x) ∧ keepQ σ σ' := by
  intro j
  induction j with
  | zero => intro k x σ h; omega
  | succ j ih =>
    intro k x σ hj hk hB hR hI hx
    obtain ⟨k, rfl⟩ : ∃ k', k = k' + 1 := ⟨k - 1, by omega⟩
    have hS4 := subS_lt hI.1 hw.h4096
    obtain ⟨T, t1, t2⟩ := trimmed_at hB hw.b20 hS4
    have hT := coD_eq t2
    have hT4 := subS_lt t2.1 hS4
    have hpT := pc_sub t2.1
    rw [← hT]
    by_cases t0 : T = 0
    · rw [rnD_0 (by rw [← hT]; exact t0)]
      refine ⟨σ, ?_, hx.2.1, hx.2.2, ?_, keepQ.rf σ⟩
      · unfold f_X12_laysNear_L64
        rw [t0, if_pos (show nI 0 = 0 from rfl)]
      · have := dInv_sub hI t2.1
        rw [t0] at this
        exact this
    · have hIT := dInv_sub hI t2.1
      have hxT : rfD σ ((T, x.w), x.2) := ⟨fun i hi => hx.1 i (t2.1 i hi), hx.2.1, hx.2.2⟩
      obtain ⟨σ1, σ2, a1, a2, a3, a4, a5, a6⟩ := stepR1 hw (x := ((T, x.w), x.2)) hB hR hIT t0 t2.2.1 hxT (fun σ' v1' => f_X12_laysNear_L64 k σ' v1')
      have a6 : pc (stD N.bt T ((T, x.w), x.2)).S 12 < pc T 12 := a6
      have hB2 := hB.kq a4
      have hS2 := subS_lt a5.1 hw.h4096
      obtain ⟨T2, v1, v2⟩ := trimmed_at hB2 hw.b20 hS2
      have hT2 := coD_eq v2
      obtain ⟨σ', r1, r2, r3, r4, r5⟩ := ih k (stD N.bt T ((T, x.w), x.2)) σ2 (by omega) (by omega) hB2 (hR.kq a4) a5 a3
      have e1 : rnD N.bt (j + 1) x = rnD N.bt j (stD N.bt T ((T, x.w), x.2)) := by
        rw [rnD_s (by rw [← hT]; exact t0), ← hT]
        rfl
      rw [e1]
      refine ⟨σ', ?_, r2, r3, r4, a4.tr r5⟩
      conv => lhs; unfold f_X12_laysNear_L64
      have a1 : f_X12_sinks σ (nI T) = some σ1 := a1
      have a2 : f_X12_laysNear_L76 (fun σ' v1' => f_X12_laysNear_L64 k σ' v1') 5000 σ1 (nI T) 11 = f_X12_laysNear_L136 (fun σ' v1' => f_X12_laysNear_L64 k σ' v1') σ2 (nI (stD N.bt T ((T, x.w), x.2)).S) := a2
      rw [if_neg (nI_ne0 (by omega) (by omega)), a1, ob_s, a2]
      unfold f_X12_laysNear_L136
      rw [v1, ob_s, hT2]
      exact r1
theorem backR_L {σ : GM} {N : NT} (hr : rfAt σ 62 0 N) (hw : wf N) {c : Nat} {f : Nat → Nat} (hc : c ≤ 12) (hf : ∀ i, i < c → f i < 12) (hP : ∀ i, i < c → σ.1 74 i = nI (f i)) : ∀ (q k s : Nat), q ≤ c → q < k → s < 4096 →
    f_X12_laysNear_L181 k σ (nI s) (nI q + (-1)) = some (σ, nI (rvD N.bt N.here f q s)) := by
  intro q
  induction q with
  | zero =>
    intro k s _ hk _
    obtain ⟨k, rfl⟩ : ∃ k', k = k' + 1 := ⟨k - 1, by omega⟩
    unfold f_X12_laysNear_L181
    rw [if_pos nI_dn0]
    rfl
  | succ q ih =>
    intro k s hq hk hs
    obtain ⟨k, rfl⟩ : ∃ k', k = k' + 1 := ⟨k - 1, by omega⟩
    have hq0 : ¬ nI q < 0 := nI_pos (by omega)
    have hfq := hf q (by omega)
    have hds := dif_lt (b := 2 ^ f q) (n := 12) hs
    have hcut := isCut_at hr.rb hw.b20 hw.2.2.2.2.1 (s := N.here) (u := dif s (2 ^ f q)) (b := fB N.bt (dif N.here (dif s (2 ^ f q)))) hw.h4096 fB_t
    rw [nI_dn]
    unfold f_X12_laysNear_L181
    rw [if_neg hq0, bnd_n (by omega) (by omega), nI_clamp (by omega), hP q (by omega), nI_bit hfq, nI_dif, there_at hr.2.1, ob_s, hcut, ob_s]
    cases hB : fB N.bt (dif N.here (dif s (2 ^ f q))) with
    | false =>
      rw [bz_y rfl, nm_v, ih k s (by omega) (by omega) hs, rvD, hB]
      rfl
    | true =>
      rw [bz_n rfl, bnd_n (by omega) (by omega), nm_v, nm_v, ih k _ (by omega) (by omega) hds, rvD, hB]
      rfl
theorem backR_at {σ : GM} {N : NT} (hr : rfAt σ 62 0 N) (hw : wf N) {c : Nat} {f : Nat → Nat} (hc : c ≤ 12) (hf : ∀ i, i < c → f i < 12) (hP : rfP σ (c, f)) : f_X12_laysNear_L145 σ = some (σ, nI (rvD N.bt N.here f c (orD f c))) := by
  obtain ⟨p1, p2⟩ := hP
  unfold f_X12_laysNear_L145
  refine lq5 c (by omega) (fun k (a : Int32) i => f_X12_laysNear_L149 k σ a i) (fun q a => a = nI (orD f q)) (fun z => z = some (σ, nI (rvD N.bt N.here f c (orD f c)))) (0 : Int32) rfl ?_ ?_
  · intro k q a hq ha
    subst ha
    refine Or.inl ⟨nI (orD f (q + 1)), rfl, fun z hz => ?_⟩
    unfold f_X12_laysNear_L149
    rw [p1, le_n hq (by omega), bnd_n (by omega) (by omega), nI_clamp (by omega), p2 q hq, nI_set (hf q hq), nm_v, nm_v, i1, nI_add]
    exact hz
  · intro k a ha
    subst ha
    show f_X12_laysNear_L149 (k + 1) σ (nI (orD f c)) (nI c) = _
    unfold f_X12_laysNear_L149 f_X12_laysNear_L174
    rw [p1, le_y (Nat.le_refl c) (by omega), nm_v, nI_m]
    exact backR_L hr hw hc hf p2 c 5000 _ (Nat.le_refl c) (by omega) (orD_lt c hf)
/-- words that a near() of the reference's may change -/
def keepX (σ σ' : GM) : Prop := (∀ m i, ¬ (m = 60 ∧ i = 28) → m ≠ 74 → m ≠ 70 → σ'.1 m i = σ.1 m i) ∧ ∀ c j, ¬ (c = 72 ∨ c = 73 ∨ c = 60) → σ'.2 c j = σ.2 c j
theorem rfAt.kx {σ σ' : GM} {N : NT} (h : rfAt σ 62 0 N) (e : ∀ i, σ'.1 62 i = σ.1 62 i) : rfAt σ' 62 0 N := h.cg (funext e)
theorem laysNear_at {σ : GM} {N : NT} (hr : rfAt σ 62 0 N) (hw : wf N) : ∃ σ', f_X12_laysNear σ = some (σ', nI (nearD N)) ∧ rfU σ' (endD N).U (endD N).D ∧ dInv N (endD N) ∧ keepX σ σ' := by
  obtain ⟨σ1, l1, -, l3, l4⟩ := laysRings_at hw.b20 hr.rb
  unfold f_X12_laysNear
  rw [l1, ob_s]
  have hr1 : rfAt σ1 62 0 N := hr.cg (l4.1 62 (by decide))
  refine lq5 12 (by omega) (fun k (a : GM) i => f_X12_laysNear_L6 k a i) (fun q a => (∀ i, i < q → i < N.told → a.2 72 i = lN (N.wt i) ∧ a.2 73 i = lN 1) ∧ a.1 = σ1.1 ∧ ∀ c j, ¬ (c = 72 ∨ c = 73 ∨ c = 60) → a.2 c j = σ1.2 c j) (fun z => ∃ σ', z = some (σ', nI (nearD N)) ∧ rfU σ' (endD N).U (endD N).D ∧ dInv N (endD N) ∧ keepX σ σ') σ1 ⟨fun i hi => absurd hi (by omega), rfl, fun _ _ _ => rfl⟩ ?_ ?_
  · intro k q a hq ⟨g1, g2, g3⟩
    refine Or.inl ⟨wL (wL a 72 q (σ1.1 62 (3 + q)).toInt64) 73 q 1, ⟨fun i hi ht => ?_, g2, fun c j h => by rw [wL_2, if_neg (by omega), wL_2, if_neg (by omega)]; exact g3 c j h⟩, fun z hz => ?_⟩
    · rw [wL_2, wL_2, wL_2, wL_2]
      by_cases e : i = q
      · subst e
        have h9 := (hw.2.2.2.1 i ht).2
        have h4 := hr1.2.2.2.1 i ht
        rw [Nat.zero_add] at h4
        rw [if_neg (by omega), if_pos ⟨rfl, rfl⟩, if_pos ⟨rfl, rfl⟩, h4, nI_l (by omega)]
        exact ⟨rfl, rfl⟩
      · rw [if_neg (by omega), if_neg (by omega), if_neg (by omega), if_neg (by omega)]
        exact g1 i (by omega) ht
    · unfold f_X12_laysNear_L6
      rw [i12, le_n hq (by omega), i3, nI_add, nm_v, bnd_n (by omega) (by omega), bnd_n hq (by omega), nI_clamp (by omega), nI_clamp (by omega), g2, nm_v, bnd_n hq (by omega), nm_v, nm_v, i1, nI_add]
      exact hz
  · intro k a ⟨g1, g2, g3⟩
    have ha : rfAt a 62 0 N := hr1.cg (by rw [g2])
    have hb : rfAt (wI (wL (wL a 60 26 0) 60 27 1) 60 28 0) 62 0 N := ha.kx (fun i => by rw [wI_1, if_neg (by omega)]; rfl)
    have hRb : isRt (wI (wL (wL a 60 26 0) 60 27 1) 60 28 0) N.bt := fun S hS => by
      rw [wI_1, if_neg (by omega)]
      show (isR N.bt S → a.1 70 S = 1) ∧ (¬ isR N.bt S → a.1 70 S = 0)
      rw [g2]; exact l3 S hS
    have hxb : rfD (wI (wL (wL a 60 26 0) 60 27 1) 60 28 0) (begD N) := by
      refine ⟨fun i hi => ⟨N.wt i, 1, ?_, ?_, Nat.one_pos, rfl, Nat.gcd_one_right _⟩, ⟨0, 1, ?_, ?_, Nat.one_pos, rfl, Nat.gcd_one_right _⟩, ?_, fun i hi => absurd hi (by show ¬ i < 0; omega)⟩
      · show (wL (wL a 60 26 0) 60 27 1).2 72 i = _
        rw [wL_2, if_neg (by omega), wL_2, if_neg (by omega)]
        exact (g1 i (tb_lt (n := 12) hi hw.h4096) (here_told hw hi)).1
      · show (wL (wL a 60 26 0) 60 27 1).2 73 i = _
        rw [wL_2, if_neg (by omega), wL_2, if_neg (by omega)]
        exact (g1 i (tb_lt (n := 12) hi hw.h4096) (here_told hw hi)).2
      · show (wL (wL a 60 26 0) 60 27 1).2 60 26 = _
        rw [wL_2, if_neg (by omega), wL_2, if_pos ⟨rfl, rfl⟩]; rfl
      · show (wL (wL a 60 26 0) 60 27 1).2 60 27 = _
        rw [wL_2, if_pos ⟨rfl, rfl⟩]; rfl
      · rw [wI_1, if_pos ⟨rfl, rfl⟩]; rfl
    obtain ⟨T, t1, t2⟩ := trimmed_at hb.rb hw.b20 hw.h4096
    have hT : T = coD N.bt (begD N).S := coD_eq t2
    obtain ⟨σ', r1, r2, r3, r4, r5⟩ := runR_L hw 13 5000 (begD N) _ (by have := pc_le N.here 12; show pc N.here 12 < 13; omega) (by have := pc_le N.here 12; show pc N.here 12 < 5000; omega) hb.rb hRb (dInv_beg hw) hxb
    have hr' : rfAt σ' 62 0 N := hb.kx (fun i => r5.1 62 i (by omega) (by omega))
    have hback := backR_at hr' hw (c := (endD N).c) (f := (endD N).f) (by have : (endD N).c + pc (endD N).S 12 ≤ 12 := r4.2.2.2.2.2.1; omega) r4.2.2.2.2.2.2 r3
    refine ⟨σ', ?_, r2, r4, fun m i h1 h2 h3 => ?_, fun c j h => ?_⟩
    · show f_X12_laysNear_L6 (k + 1) a (nI 12) = _
      unfold f_X12_laysNear_L6 f_X12_laysNear_L40
      rw [i12, le_y (Nat.le_refl 12) (by omega), nm_v, nm_v, nm_v, there_at hb.2.1, ob_s, t1, ob_s, hT, r1]
      exact hback
    · rw [r5.1 m i h1 h2, wI_1, if_neg h1]
      show a.1 m i = _
      rw [g2, l4.1 m h3]
    · rw [r5.2 c j h]
      show (wL (wL a 60 26 0) 60 27 1).2 c j = _
      rw [wL_2, if_neg (by omega), wL_2, if_neg (by omega), g3 c j h, l4.2 c j (by omega)]
