/-! LEARNING THE RINGS -/
theorem lo_mod {w v : Nat} (hw : w < 4096) (h : w % 2 ^ (v + 1) = 2 ^ v) : lo w = v ∧ w ≠ 0 := by
  have hb : ∀ i, i ≤ v → w.testBit i = (2 ^ v).testBit i := by
    intro i hi
    rw [← h, Nat.testBit_mod_two_pow, decide_eq_true (show i < v + 1 by omega), Bool.true_and]
  have h1 : w.testBit v = true := by rw [hb v (Nat.le_refl v)]; exact tb_two.mpr rfl
  have h0 : w ≠ 0 := by rintro rfl; rw [Nat.zero_testBit] at h1; cases h1
  obtain ⟨m1, m2, m3⟩ := lo_all w hw h0
  refine ⟨?_, h0⟩
  rcases Nat.lt_trichotomy (lo w) v with c | c | c
  · rw [hb _ (by omega)] at m2
    exact (tb_two.mp m2).symm
  · exact c
  · rw [m3 v c] at h1; cases h1
theorem lo_ge {r : Nat} (hr : r < 4096) (h0 : r ≠ 0) : 2 ^ lo r ≤ r := by
  obtain ⟨m1, m2, m3⟩ := lo_all r hr h0
  rcases Nat.lt_or_ge r (2 ^ lo r) with c | c
  · rw [Nat.testBit_lt_two_pow c] at m2; cases m2
  · exact c
theorem mod_gap {r w m : Nat} (h1 : r % m = w % m) (h2 : r < w + m) : r ≤ w := by
  rcases Nat.lt_or_ge w r with c | c
  · exfalso
    have := Nat.mod_add_div r m
    have := Nat.mod_add_div w m
    have h3 : m * (w / m) < m * (r / m) := by omega
    have h4 : m * (r / m) < m * (w / m) + m := by omega
    have h5 : w / m < r / m := Nat.lt_of_mul_lt_mul_left h3
    have h6 : m * (w / m + 1) ≤ m * (r / m) := Nat.mul_le_mul_left m h5
    rw [Nat.mul_add, Nat.mul_one] at h6
    omega
  · exact c
def keepR (a a' : GM) : Prop := ∀ m, m ≠ 49 → m ≠ 53 → a'.1 m = a.1 m ∧ a'.2 m = a.2 m
theorem keepR.rf (a : GM) : keepR a a := fun _ _ _ => ⟨rfl, rfl⟩
theorem keepR.tr {a b c : GM} (h : keepR a b) (g : keepR b c) : keepR a c := fun m h1 h2 => ⟨(g m h1 h2).1.trans (h m h1 h2).1, (g m h1 h2).2.trans (h m h1 h2).2⟩
theorem frT.kp {a a' : GM} {B : Nat → Nat → Nat} {h : Nat} (H : frT a B h) (hk : keepR a a') : frT a' B h := fun S hS => by rw [(hk 50 (by decide) (by decide)).1]; exact H S hS
theorem rl_next {a : GM} {B : Nat → Nat → Nat} {h v w c : Nat} {f s : Nat → Nat} (hh : h < 4096) (H : rl a B h v w c f s) (hm : w % 2 ^ (v + 1) = 2 ^ v) (hn : ¬ isM B h w) : rl a B h v (w + 2 * 2 ^ v) c f s := by
  obtain ⟨h1, h2, h3, h4, h5, h7, h8, h9⟩ := H
  refine ⟨h1, h2, h3, ?_, h5, h7, fun i hi hs => ⟨(h8 i hi hs).1, by have := (h8 i hi hs).2; omega⟩, h9⟩
  intro r hr hc
  rcases hc with hc | ⟨hc, hd⟩
  · exact h4 r hr (Or.inl hc)
  · have hr0 := isM_0 hr
    have hr4 := subS_lt hr.1 hh
    have h6 := mod_all r hr4 hr0
    rw [hc] at h6
    have h10 := mod_gap (r := r) (w := w) (m := 2 ^ (v + 1)) (by rw [h6, hm]) (by rw [Nat.pow_succ]; omega)
    by_cases e : r = w
    · subst e; exact absurd hr hn
    · exact h4 r hr (Or.inr ⟨hc, by omega⟩)
theorem rl_add {a : GM} {B : Nat → Nat → Nat} {h v w c : Nat} {f s g : Nat → Nat} (gc : g c = w) (gn : ∀ i, i ≠ c → g i = f i) (hh : h < 4096) (H : rl a B h v w c f s) (hm : w % 2 ^ (v + 1) = 2 ^ v) (hw : isM B h w) :
    rl (wI (wI a 53 c (nI w)) 49 5 (nI (c + 1))) B h v (w + 2 * 2 ^ v) (c + 1) g s := by
  obtain ⟨h1, h2, h3, h4, h5, h7, h8, h9⟩ := H
  have hw4 := subS_lt hw.1 hh
  obtain ⟨hl, hw0⟩ := lo_mod hw4 hm
  have h2v := Nat.two_pow_pos v
  have hne : ∀ i, i < c → f i ≠ w := by
    intro i hi e
    rcases Nat.lt_or_ge i (s v) with q | q
    · have := h9 i q; rw [e, hl] at this; omega
    · have := (h8 i hi q).2; omega
  have hcv := h5 v (Nat.le_refl v)
  refine ⟨by rw [wI_1, if_pos ⟨rfl, rfl⟩], ?_, ?_, ?_, ?_, ?_, ?_, ?_⟩
  · intro i hi
    rw [wI_1, if_neg (by omega), wI_1]
    by_cases e : i = c
    · rw [if_pos ⟨rfl, e⟩, e, gc]; exact ⟨rfl, hw⟩
    · rw [if_neg (by omega), gn i e]; exact h2 i (by omega)
  · intro i j hi hj hij
    by_cases e : i = c
    · by_cases q : j = c
      · omega
      · rw [e, gc, gn j q] at hij
        exact absurd hij.symm (hne j (by omega))
    · by_cases q : j = c
      · rw [q, gc, gn i e] at hij
        exact absurd hij (hne i (by omega))
      · rw [gn i e, gn j q] at hij
        exact h3 i j (by omega) (by omega) hij
  · intro r hr hc
    by_cases e : r = w
    · exact ⟨c, by omega, by rw [gc, e]⟩
    · have : ∃ i, i < c ∧ f i = r := by
        rcases hc with hc | ⟨hc, hd⟩
        · exact h4 r hr (Or.inl hc)
        · have hr0 := isM_0 hr
          have hr4 := subS_lt hr.1 hh
          have h6 := mod_all r hr4 hr0
          rw [hc] at h6
          have h10 := mod_gap (r := r) (w := w) (m := 2 ^ (v + 1)) (by rw [h6, hm]) (by rw [Nat.pow_succ]; omega)
          exact h4 r hr (Or.inr ⟨hc, by omega⟩)
      obtain ⟨i, g1, g2⟩ := this
      exact ⟨i, by omega, by rw [gn i (by omega)]; exact g2⟩
  · intro u hu
    have := h5 u hu
    omega
  · intro i hi u hu
    by_cases e : i = c
    · rw [e, gc, hl]
      have := h5 (u + 1) (by omega)
      constructor
      · intro q; omega
      · intro q; omega
    · rw [gn i e]; exact h7 i (by omega) u hu
  · intro i hi hs
    by_cases e : i = c
    · rw [e, gc]; exact ⟨hl, by omega⟩
    · rw [gn i e]
      have := h8 i (by omega) hs
      exact ⟨this.1, by omega⟩
  · intro i hi
    rw [gn i (by omega)]
    exact h9 i hi
theorem rings30 {B : Nat → Nat → Nat} {h v : Nat} (hh : h < 4096) (hv : v < 12) (k7 : GM → Int32 → Option GM) : ∀ (k w c : Nat) (f s : Nat → Nat) (a : GM), 8192 < 2 * k + w → w ≤ 8191 → w % 2 ^ (v + 1) = 2 ^ v → rl a B h v w c f s → frT a B h →
    ∃ a' w' c' f', f_X8_learnRings_L33 k7 (nI h) (nI v) (nI (2 ^ v)) k a (nI w) = k7 a' (nI (v + 1)) ∧ rl a' B h v w' c' f' s ∧ h < w' ∧ keepR a a' := by
  intro k
  induction k with
  | zero => intro w c f s a h1 h2; omega
  | succ k ih =>
    intro w c f s a h1 h2 h3 h4 h5
    have h2v := Nat.two_pow_pos v
    have h2l : 2 ^ v ≤ 2 ^ 11 := Nat.pow_le_pow_right (by decide) (by omega)
    unfold f_X8_learnRings_L33
    by_cases e : h < w
    · refine ⟨a, w, c, f, ?_, h4, e, keepR.rf a⟩
      rw [lt_y e (by omega), nm_v, i1, nI_add]
    · have hw4 : w < 4096 := by omega
      have hmod : (w + 2 * 2 ^ v) % 2 ^ (v + 1) = 2 ^ v := by
        rw [show 2 * 2 ^ v = 2 ^ (v + 1) by rw [Nat.pow_succ]; omega, Nat.add_mod_right, h3]
      have hstep : ∀ (a1 : GM) (k30 : GM → Int32 → Option GM), f_X8_learnRings_L90 k7 k30 (nI h) (nI v) (nI (2 ^ v)) a1 (nI w) = k30 a1 (nI (w + 2 * 2 ^ v)) := by
        intro a1 k30
        unfold f_X8_learnRings_L90
        rw [i2, pk_mul, nm_v, nI_add]
      rw [lt_n (by omega) (by omega), nI_dif, hstep]
      by_cases hs : subS w h
      · rw [(sub_dif (b32 hw4)).mpr hs, if_pos (show nI 0 = 0 from rfl)]
        obtain ⟨b, b1, b2⟩ := leastRing_at h5 hh hs
        rw [b1, ob_s]
        cases b with
        | false =>
          rw [bz_y rfl]
          obtain ⟨a', w', c', f', g1, g2, g3, g4⟩ := ih (w + 2 * 2 ^ v) c f s a (by omega) (by omega) hmod (rl_next hh h4 h3 (fun q => by have := b2.mpr q; cases this)) h5
          exact ⟨a', w', c', f', g1, g2, g3, g4⟩
        | true =>
          have hM := b2.mp rfl
          have hroom := rl_room hh h4 hM (lo_mod hw4 h3).1
          have hk : keepR a (wI (wI a 53 c (nI w)) 49 5 (nI (c + 1))) := fun m m1 m2 => by
            constructor
            · funext i
              rw [wI_1, if_neg (by omega), wI_1, if_neg (by omega)]
            · rfl
          obtain ⟨a', w', c', f', g1, g2, g3, g4⟩ := ih (w + 2 * 2 ^ v) (c + 1) (fun i => if i = c then w else f i) s _ (by omega) (by omega) hmod (rl_add (if_pos rfl) (fun i q => if_neg q) hh h4 h3 hM) (h5.kp hk)
          refine ⟨a', w', c', f', ?_, g2, g3, hk.tr g4⟩
          rw [bz_n rfl, h4.1, show (924 : Int32) = nI 924 from rfl, le_n hroom (by omega), bnd_n hroom (by omega), nm_v, nm_v, nI_clamp (by omega), hstep, wI_1, if_neg (by omega), h4.1, i1, nI_add]
          exact g1
      · have hd : dif w h ≠ 0 := fun q => hs ((sub_dif (b32 hw4)).mp q)
        obtain ⟨a', w', c', f', g1, g2, g3, g4⟩ := ih (w + 2 * 2 ^ v) c f s a (by omega) (by omega) hmod (rl_next hh h4 h3 (fun q => hs q.1)) h5
        refine ⟨a', w', c', f', ?_, g2, g3, g4⟩
        have := dif_lt (b := h) (n := 12) hw4
        rw [i0, eq_n hd (by omega) (by omega)]
        exact g1
/-- where the rings of a point begin, as it is asked for -/
def stA (σ : GM) (v : Nat) : Int32 := if v < 12 then σ.1 54 v else σ.1 49 5
/-- the rings are known -/
def ringsOK (σ : GM) (B : Nat → Nat → Nat) (h : Nat) : Prop :=
  frT σ B h ∧ ∃ (L : Nat) (f s : Nat → Nat), σ.1 49 5 = nI L ∧ L ≤ 924 ∧ (∀ i, i < L → σ.1 53 i = nI (f i) ∧ isM B h (f i)) ∧ (∀ r, isM B h r → ∃ i, i < L ∧ f i = r) ∧ (∀ v, v ≤ 12 → stA σ v = nI (s v) ∧ s v ≤ L) ∧ (∀ i, i < L → ∀ v, v < 12 → (lo (f i) = v ↔ (s v ≤ i ∧ i < s (v + 1))))
theorem learnRings_at {σ : GM} {B : Nat → Nat → Nat} {h : Nat} (hh : h < 4096) (ht : frT σ B h) : ∃ σ', f_X8_learnRings σ (nI h) = some σ' ∧ ringsOK σ' B h ∧ fr σ σ' 49 55 := by
  unfold f_X8_learnRings
  rw [nm_v]
  refine lq5 12 (by omega) (fun k (a : GM) i => f_X8_learnRings_L7 (nI h) k a i) (fun q a => ∃ c f s, rl a B h q 0 c f s ∧ s q = c ∧ frT a B h ∧ (∀ u, u < q → a.1 54 u = nI (s u)) ∧ fr σ a 49 55) (fun r => ∃ σ', r = some σ' ∧ ringsOK σ' B h ∧ fr σ σ' 49 55) (wI σ 49 5 0) ?_ ?_ ?_
  · refine ⟨0, fun _ => 0, fun _ => 0, ⟨?_, fun i hi => absurd hi (by omega), fun i j hi => absurd hi (by omega), ?_, fun u _ => Nat.le_refl 0, fun i hi => absurd hi (Nat.not_lt_zero i), fun i hi => absurd hi (Nat.not_lt_zero i), fun i hi => absurd hi (Nat.not_lt_zero i)⟩, rfl, ?_, fun u hu => absurd hu (by omega), fr_wI (by omega) (by omega)⟩
    · rw [wI_1, if_pos ⟨rfl, rfl⟩]; rfl
    · intro r hr hc
      have := isM_0 hr
      omega
    · intro S hS
      rw [wI_1, if_neg (by omega)]; exact ht S hS
  · intro k q a hq ⟨c, f, s, g1, g2, g3, g4, g5⟩
    have hcell : (wI a 54 q (a.1 49 5)).1 49 5 = a.1 49 5 := by rw [wI_1, if_neg (by omega)]
    have hrl : rl (wI a 54 q (a.1 49 5)) B h q (2 ^ q) c f s := by
      obtain ⟨h1, h2, h3, h4, h5, h7, h8, h9⟩ := g1
      refine ⟨by rw [hcell]; exact h1, fun i hi => by rw [wI_1, if_neg (by omega)]; exact h2 i hi, h3, ?_, h5, h7, fun i hi hs => absurd hi (by omega), h9⟩
      intro r hr hc
      rcases hc with hc | ⟨hc, hd⟩
      · exact h4 r hr (Or.inl hc)
      · have := lo_ge (subS_lt hr.1 hh) (isM_0 hr)
        rw [hc] at this
        omega
    have hf2 : frT (wI a 54 q (a.1 49 5)) B h := fun S hS => by rw [wI_1, if_neg (by omega)]; exact g3 S hS
    have hq2 := p2_lt hq
    have hq3 := Nat.two_pow_pos q
    obtain ⟨a', w', c', f', r1, r2, r3, r4⟩ := rings30 hh hq (fun σ' v2' => f_X8_learnRings_L7 (nI h) k σ' v2') 5000 (2 ^ q) c f s (wI a 54 q (a.1 49 5)) (by omega) (by omega) (Nat.mod_eq_of_lt (Nat.pow_lt_pow_right (by decide) (by omega))) hrl hf2
    obtain ⟨s2, hs1, hs2⟩ : ∃ s2 : Nat → Nat, s2 (q + 1) = c' ∧ ∀ u, u ≠ q + 1 → s2 u = s u := ⟨fun u => if u = q + 1 then c' else s u, if_pos rfl, fun u hu => if_neg hu⟩
    refine Or.inl ⟨a', ⟨c', f', s2, ?_, hs1, hf2.kp r4, ?_, ?_⟩, fun r hr => ?_⟩
    · obtain ⟨h1, h2, h3, h4, h5, h7, h8, h9⟩ := r2
      have hcc := h5 q (Nat.le_refl q)
      refine ⟨h1, h2, h3, ?_, ?_, ?_, ?_, ?_⟩
      · intro r hr hc
        have hr4 := subS_le hr.1
        by_cases e : lo r = q
        · exact h4 r hr (Or.inr ⟨e, by omega⟩)
        · have : ¬ (lo r = q + 1 ∧ r < 0) := by omega
          exact h4 r hr (Or.inl (by omega))
      · intro u hu
        by_cases e : u = q + 1
        · rw [e, hs1]; omega
        · rw [hs2 u e]; exact h5 u (by omega)
      · intro i hi u hu
        rw [hs2 u (by omega)]
        by_cases e : u = q
        · rw [e, hs1]
          constructor
          · intro hl
            refine ⟨?_, hi⟩
            rcases Nat.lt_or_ge i (s q) with z | z
            · have := h9 i z; omega
            · exact z
          · intro hl
            exact (h8 i hi hl.1).1
        · rw [hs2 (u + 1) (by omega)]
          exact h7 i hi u (by omega)
      · intro i hi hs
        rw [hs1] at hs
        omega
      · intro i hi
        rw [hs1] at hi
        rcases Nat.lt_or_ge i (s q) with z | z
        · have := h9 i z; omega
        · have := (h8 i hi z).1; omega
    · intro u hu
      rw [hs2 u (by omega), (r4 54 (by decide) (by decide)).1, wI_1]
      by_cases e : u = q
      · rw [if_pos ⟨rfl, e⟩, e, g2]; exact g1.1
      · rw [if_neg (by omega)]; exact g4 u (by omega)
    · refine g5.trans (fun m hm => ?_)
      have := r4 m (by omega) (by omega)
      exact ⟨this.1.trans (wI_other m (by omega)).1, this.2.trans (wI_other m (by omega)).2⟩
    · unfold f_X8_learnRings_L7
      rw [i12, le_n hq (by omega), show (bnd (nI q) 12 : Option GM → Option GM) = (fun x => x) from funext (fun x => bnd_n (by omega) (by omega)), nm_v, nI_clamp (by omega), nI_bit hq, nm_v]
      exact r1.trans hr
  · intro k a ⟨c, f, s, g1, g2, g3, g4, g5⟩
    obtain ⟨h1, h2, h3, h4, h5, h7, h8, h9⟩ := g1
    have hsp := sperner (L := c) (f := f) (fun i hi => subS_lt (h2 i hi).2.1 hh) (fun i j hi hj hs => h3 i j hi hj (isM_sub hh (h2 i hi).2 (h2 j hj).2 hs))
    refine ⟨a, ?_, ⟨g3, c, f, s, h1, hsp, h2, ?_, ?_, h7⟩, g5⟩
    · show f_X8_learnRings_L7 (nI h) (k + 1) a (nI 12) = _
      unfold f_X8_learnRings_L7
      rw [i12, le_y (Nat.le_refl 12) (by omega)]
    · intro r hr
      have hr0 := isM_0 hr
      have hr4 := subS_lt hr.1 hh
      exact h4 r hr (Or.inl (lo_all r hr4 hr0).1)
    · intro v hv
      refine ⟨?_, h5 v hv⟩
      unfold stA
      by_cases e : v = 12
      · rw [if_neg (by omega), e, g2]; exact h1
      · rw [if_pos (by omega)]; exact g4 v (by omega)
