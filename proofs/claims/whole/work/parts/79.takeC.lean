/-! A TOKEN IS TAKEN, in the class -/
def mB (s : RS) : Prop := ∀ i, i < s.N.told → s.m i < 2 ^ 40
def rdC (σ : GM) (s : RS) : Prop := σ.1 3 4 = nI s.e ∧ σ.1 3 2 = nI s.r ∧ (s.e = 5 → σ.1 3 5 = nI s.f) ∧ netAt σ 4 s.N ∧ ∀ i, i < s.N.told → σ.2 7 i = lN (s.m i)
/-- the token that lies there -/
def tokC (σ : GM) (k v : Nat) : Prop := 1 ≤ k ∧ k ≤ 4 ∧ σ.1 3 6 = nI (k - 1) ∧ (k = 2 ∨ k = 3 → σ.2 3 7 = lN v ∧ v < 2 ^ 40)
def tkc (y : TR) : Nat := match y with
  | .inl c => c
  | .inr _ => 0
/-- cells that taking a token may change -/
def onlyR (σ σ' : GM) : Prop := (∀ m, m < 3 ∨ 8 ≤ m → σ'.1 m = σ.1 m ∧ σ'.2 m = σ.2 m) ∧ σ'.1 3 3 = σ.1 3 3 ∧ σ'.1 3 8 = σ.1 3 8
theorem onlyR.rf (σ : GM) : onlyR σ σ := ⟨fun _ _ => ⟨rfl, rfl⟩, rfl, rfl⟩
theorem onlyR.tr {a b c : GM} (h : onlyR a b) (g : onlyR b c) : onlyR a c := ⟨fun m hm => ⟨(g.1 m hm).1.trans (h.1 m hm).1, (g.1 m hm).2.trans (h.1 m hm).2⟩, g.2.1.trans h.2.1, g.2.2.trans h.2.2⟩
theorem onlyR.w3 {σ : GM} {i : Nat} {v : Int32} (h : i ≠ 3 ∧ i ≠ 8) : onlyR σ (wI σ 3 i v) := ⟨fun m hm => wI_other m (by omega), by rw [wI_1, if_neg (by omega)], by rw [wI_1, if_neg (by omega)]⟩
theorem onlyR.f {σ σ' : GM} (h : fr σ σ' 4 7) : onlyR σ σ' := ⟨fun m hm => h m (by omega), by rw [(h 3 (by omega)).1], by rw [(h 3 (by omega)).1]⟩
theorem onlyR.w7 {σ : GM} {i : Nat} {v : Int64} : onlyR σ (wL σ 7 i v) := ⟨fun m hm => wL_other m (by omega), rfl, rfl⟩
/-- what taking a token comes to -/
def tookC (σ : GM) (s : RS) (k v : Nat) (σ' : GM) (c : Int32) : Prop := c = nI (tkc (tkF s k v)) ∧ (∀ c', tkF s k v = .inl c' → c' ≠ 0 ∧ c' < 6) ∧ (∀ s', tkF s k v = .inr (some s') → rdC σ' s' ∧ mB s') ∧ tkF s k v ≠ .inr none ∧ onlyR σ σ'
theorem took_f {σ σ' : GM} {s : RS} {k v c : Nat} (h : tkF s k v = .inl c) (hc : c ≠ 0 ∧ c < 6) (ho : onlyR σ σ') : tookC σ s k v σ' (nI c) := by
  refine ⟨by rw [h]; rfl, fun c' e => ?_, fun s' e => ?_, fun e => ?_, ho⟩
  · rw [h] at e; cases e; exact hc
  · rw [h] at e; cases e
  · rw [h] at e; cases e
theorem took_s {σ σ' : GM} {s s' : RS} {k v : Nat} (h : tkF s k v = .inr (some s')) (hr : rdC σ' s') (hm : mB s') (ho : onlyR σ σ') : tookC σ s k v σ' (nI 0) := by
  refine ⟨by rw [h]; rfl, fun c' e => ?_, fun s2 e => ?_, fun e => ?_, ho⟩
  · rw [h] at e; cases e
  · rw [h] at e; cases e; exact ⟨hr, hm⟩
  · rw [h] at e; cases e
theorem WPl : (8805260 : Int64) = lN WP := rfl
theorem WLl : (243140 : Int64) = lN WL := rfl
theorem lceq_y {α : Type} {a b : Nat} {x y : α} (h : a = b) : (if lg_cmp (lN a) (lN b) = (0 : Int32) then x else y) = x := if_pos ((lg_cmp_eq _ _).mpr (by rw [h]))
theorem lceq_n {α : Type} {a b : Nat} {x y : α} (h : a ≠ b) (ha : a < 2 ^ 63) (hb : b < 2 ^ 63) : (if lg_cmp (lN a) (lN b) = (0 : Int32) then x else y) = y := if_neg (fun z => h ((pk_lEQ ha hb).mp ((lg_cmp_eq _ _).mp z)))
theorem WP_b : WP < 2 ^ 63 := by decide
theorem WL_b : WL < 2 ^ 63 := by decide
theorem isNameC {σ : GM} {k v : Nat} (h : tokC σ k v) : f_X6_isName σ = some (nI (bI (isNm k v))) := by
  obtain ⟨h1, h2, h3, h4⟩ := h
  have b1 := WP_b
  have b2 := WL_b
  unfold f_X6_isName isNm
  rw [h3, i1]
  by_cases c : k = 2
  · obtain ⟨hv, hb⟩ := h4 (Or.inl c)
    rw [eq_y (by omega), hv, WPl, WLl]
    by_cases d : v = WP
    · rw [lceq_y d, decide_eq_false (fun z => z.2.1 d)]; rfl
    · rw [lceq_n d (by omega) b1]
      by_cases e : v = WL
      · rw [lceq_y e, decide_eq_false (fun z => z.2.2 e)]; rfl
      · rw [lceq_n e (by omega) b2, decide_eq_true ⟨c, d, e⟩]; rfl
  · rw [eq_n (by omega) (by omega) (by omega), decide_eq_false (fun z => c z.1)]; rfl
def nmI (y : Option Nat) : Int32 := match y with
  | some p => nI p
  | none => -1
theorem namedC {σ : GM} {s : RS} {v : Nat} (hn : netAt σ 4 s.N) (ht : s.N.told ≤ 12) (hN : ∀ i, i < s.N.told → σ.2 7 i = lN (s.m i)) (hm : mB s) (hv : v < 2 ^ 40) : f_X6_pointNamed σ (lN v) = some (nmI (nmd s v)) := by
  unfold f_X6_pointNamed
  refine lq5 s.N.told (by omega) (fun k (_ : Unit) i => f_X6_pointNamed_L2 σ (lN v) k i) (fun q _ => ∀ i, i < q → s.m i ≠ v) (fun z => z = some (nmI (nmd s v))) () (fun i hi => absurd hi (by omega)) ?_ ?_
  · intro k q _ hq hI
    have hmq := hm q hq
    by_cases c : s.m q = v
    · refine Or.inr ?_
      have : nmd s v = some q := fi_s.mpr ⟨hq, decide_eq_true c, fun i hi => decide_eq_false (hI i hi)⟩
      rw [this]
      show f_X6_pointNamed_L2 σ (lN v) (k + 1) (nI q) = some (nI q)
      unfold f_X6_pointNamed_L2
      rw [i12, le_n (by omega) (by omega), hn.1, le_n hq (by omega), bnd_n (by omega) (by omega), nI_clamp (by omega), hN q hq, lceq_y c]
    · refine Or.inl ⟨(), fun i hi => ?_, fun z hz => ?_⟩
      · by_cases e : i = q
        · subst e; exact c
        · exact hI i (by omega)
      · show f_X6_pointNamed_L2 σ (lN v) (k + 1) (nI q) = z
        unfold f_X6_pointNamed_L2
        rw [i12, le_n (by omega) (by omega), hn.1, le_n hq (by omega), bnd_n (by omega) (by omega), nI_clamp (by omega), hN q hq, lceq_n c (by omega) (by omega), nm_v, i1, nI_add]
        exact hz
  · intro k _ hI
    have : nmd s v = none := fi_n.mpr (fun i hi => decide_eq_false (hI i hi))
    rw [this]
    show f_X6_pointNamed_L2 σ (lN v) (k + 1) (nI s.N.told) = some (-1)
    unfold f_X6_pointNamed_L2
    rw [i12]
    by_cases c : 12 ≤ s.N.told
    · rw [le_y c (by omega)]
    · rw [le_n (by omega) (by omega), hn.1, le_y (Nat.le_refl _) (by omega)]
theorem rdC.w4 {σ : GM} {s : RS} {e : Nat} (h : rdC σ s) (he : e ≠ 5) : rdC (wI σ 3 4 (nI e)) ((e, s.f, s.r), s.2) := by
  obtain ⟨h1, h2, h3, h4, h5⟩ := h
  exact ⟨by rw [wI_1, if_pos ⟨rfl, rfl⟩], by rw [wI_1, if_neg (by omega)]; exact h2, fun z => absurd z he, h4.keep (fr_wI (a := 3) (b := 4) (by omega) (by omega)) (by omega), h5⟩
theorem take0 {σ : GM} {s : RS} {k v : Nat} (hI : rsI s) (hm : mB s) (h : rdC σ s) (ht : tokC σ k v) (he : s.e = 0) : ∃ σ' c, f_X6_beginRow σ = some (σ', c) ∧ tookC σ s k v σ' c := by
  have hF : tkF s k v = tk0 s k v := by unfold tkF; rw [if_pos he]
  have b1 := WP_b
  have b2 := WL_b
  have h12 := hI.1.1
  have h20 := hI.1.2.2.2.2.2.2.1
  obtain ⟨g1, g2, g3, g4⟩ := ht
  have hk0 : k ≠ 0 := by omega
  unfold f_X6_beginRow
  rw [g3, i1]
  by_cases c : k = 2
  · obtain ⟨hv, hb⟩ := g4 (Or.inl c)
    rw [eq_y (by omega), hv, WPl, WLl]
    by_cases d : v = WP
    · rw [lceq_y d]
      unfold f_X6_beginRow_L32 f_X6_beginRow_L48 f_X6_beginRow_L82
      rw [hv, WPl, lceq_y d, if_neg (by decide), h.2.2.2.1.1, i12]
      by_cases e : s.N.told = 12
      · rw [lt_n (by omega) (by omega)]
        exact ⟨σ, _, rfl, took_f (c := 4) (by rw [hF]; unfold tk0; rw [if_pos ⟨c, d⟩, if_pos e]) (by omega) (onlyR.rf σ)⟩
      · rw [lt_y (by omega) (by omega), if_neg (by decide), nm_v]
        exact ⟨wI σ 3 4 1, _, rfl, took_s (by rw [hF]; unfold tk0; rw [if_pos ⟨c, d⟩, if_neg e]) (h.w4 (e := 1) (by omega)) hm (onlyR.w3 (by omega))⟩
    · rw [lceq_n d (by omega) b1]
      by_cases e : v = WL
      · rw [lceq_y e]
        unfold f_X6_beginRow_L32 f_X6_beginRow_L48 f_X6_beginRow_L82
        rw [hv, WPl, lceq_n d (by omega) b1, if_pos rfl, h.2.2.2.1.2.2.2.1, i20]
        by_cases f : lcB s.N.bt = 20
        · rw [lt_n (by omega) (by omega)]
          exact ⟨σ, _, rfl, took_f (c := 4) (by rw [hF]; unfold tk0; rw [if_neg (fun z => d z.2), if_pos ⟨c, e⟩, if_pos f]) (by omega) (onlyR.rf σ)⟩
        · rw [lt_y (by omega) (by omega), if_pos rfl, nm_v]
          exact ⟨wI σ 3 4 4, _, rfl, took_s (by rw [hF]; unfold tk0; rw [if_neg (fun z => d z.2), if_pos ⟨c, e⟩, if_neg f]) (h.w4 (e := 4) (by omega)) hm (onlyR.w3 (by omega))⟩
      · rw [lceq_n e (by omega) b2]
        exact ⟨σ, _, rfl, took_f (c := 1) (by rw [hF]; unfold tk0; rw [if_neg (fun z => d z.2), if_neg (fun z => e z.2), if_neg hk0]) (by omega) (onlyR.rf σ)⟩
  · rw [eq_n (by omega) (by omega) (by omega)]
    exact ⟨σ, _, rfl, took_f (c := 1) (by rw [hF]; unfold tk0; rw [if_neg (fun z => c z.1), if_neg (fun z => c z.1), if_neg hk0]) (by omega) (onlyR.rf σ)⟩
theorem take1 {σ : GM} {s : RS} {k v : Nat} (hI : rsI s) (hm : mB s) (h : rdC σ s) (ht : tokC σ k v) (he : s.e = 1) : ∃ σ' c, f_X6_takeName σ = some (σ', c) ∧ tookC σ s k v σ' c := by
  have hF : tkF s k v = tk1 s k v := by unfold tkF; rw [if_neg (by omega), if_pos he]
  have h12 := hI.2.2.2.1 he
  obtain ⟨h1, h2, h3, h4, h5⟩ := id h
  unfold f_X6_takeName
  rw [isNameC ht, ob_s]
  cases c : isNm k v with
  | false =>
    rw [bz_y rfl]
    exact ⟨σ, _, rfl, took_f (c := 1) (by rw [hF]; unfold tk1; rw [if_neg (by rw [c]; decide)]) (by omega) (onlyR.rf σ)⟩
  | true =>
    have hk : k = 2 := (of_decide_eq_true c).1
    obtain ⟨hv, hb⟩ := ht.2.2.2 (Or.inl hk)
    rw [bz_n rfl, nm_v, hv, namedC h4 (by omega) h5 hm hb, ob_s]
    cases d : nmd s v with
    | some p =>
      have hp := (nmd_s d).1
      show ∃ σ' c, (if nI p = -1 then _ else some (σ, (3 : Int32))) = some (σ', c) ∧ _
      rw [if_neg (m1_ne (by omega))]
      exact ⟨σ, _, rfl, took_f (c := 3) (by rw [hF]; unfold tk1; rw [if_pos c, if_neg (by rw [d]; exact fun z => by cases z)]) (by omega) (onlyR.rf σ)⟩
    | none =>
      show ∃ σ' c, (if (-1 : Int32) = -1 then _ else some (σ, (3 : Int32))) = some (σ', c) ∧ _
      have hn1 : netAt (wL σ 7 s.N.told (lN v)) 4 s.N := h4.keep (fr_wL (a := 7) (b := 8) (by omega) (by omega)) (by omega)
      obtain ⟨σ1, r1, r2, r3⟩ := addPoint_at hn1 h12
      rw [if_pos rfl, h4.1, if_neg (nI_pos (by omega)), i12, lt_y h12 (by omega), bnd_n h12 (by omega), nI_clamp (by omega), nm_v, r1, ob_s, nm_v]
      refine ⟨wI σ1 3 4 2, _, rfl, took_s (s' := ((2, s.f, s.r), s.N.addP, fun i => if i = s.N.told then v else s.m i)) (by rw [hF]; unfold tk1; rw [if_pos c, if_pos d]) ⟨?_, ?_, fun z => (by cases z), ?_, fun i hi => ?_⟩ (fun i hi => ?_) ((onlyR.w7.tr (onlyR.f r3)).tr (onlyR.w3 (by omega)))⟩
      · rw [wI_1, if_pos ⟨rfl, rfl⟩]; rfl
      · rw [wI_1, if_neg (by omega), (r3 3 (by omega)).1]; exact h2
      · exact r2.keep (fr_wI (a := 3) (b := 4) (by omega) (by omega)) (by omega)
      · have hi : i < s.N.told + 1 := hi
        show σ1.2 7 i = lN (if i = s.N.told then v else s.m i)
        rw [(r3 7 (by omega)).2, wL_2]
        by_cases e : i = s.N.told
        · rw [if_pos ⟨rfl, e⟩, if_pos e]
        · rw [if_neg (fun z => e z.2), if_neg e]; exact h5 i (by omega)
      · have hi : i < s.N.told + 1 := hi
        show (if i = s.N.told then v else s.m i) < 2 ^ 40
        by_cases e : i = s.N.told
        · rw [if_pos e]; exact hb
        · rw [if_neg e]; exact hm i (by omega)
theorem take3 {σ : GM} {s : RS} {k v : Nat} (hm : mB s) (h : rdC σ s) (ht : tokC σ k v) (hF : tkF s k v = tk3 s k) : ∃ σ' c, f_X6_takeSign σ = some (σ', c) ∧ tookC σ s k v σ' c := by
  obtain ⟨h1, h2, h3, h4, h5⟩ := id h
  obtain ⟨g1, g2, g3, g4⟩ := ht
  unfold f_X6_takeSign
  rw [g3, i3]
  by_cases c : k = 4
  · rw [eq_y (by omega), h2, i1, nI_add, nm_v, nm_v]
    have hr : rdC (wI σ 3 2 (nI (s.r + 1))) ((s.e, s.f, s.r + 1), s.2) := ⟨by rw [wI_1, if_neg (by omega)]; exact h1, by rw [wI_1, if_pos ⟨rfl, rfl⟩], fun z => (by rw [wI_1, if_neg (by omega)]; exact h3 z), h4.keep (fr_wI (a := 3) (b := 4) (by omega) (by omega)) (by omega), h5⟩
    exact ⟨wI (wI σ 3 2 (nI (s.r + 1))) 3 4 0, _, rfl, took_s (s' := ((0, s.f, s.r + 1), s.2)) (by rw [hF]; unfold tk3; rw [if_pos c]) (hr.w4 (e := 0) (by omega)) hm ((onlyR.w3 (by omega)).tr (onlyR.w3 (by omega)))⟩
  · rw [eq_n (by omega) (by omega) (by omega)]
    exact ⟨σ, _, rfl, took_f (c := 1) (by rw [hF]; unfold tk3; rw [if_neg c]) (by omega) (onlyR.rf σ)⟩
theorem netAt.cw {σ : GM} {n : Nat} {N : NT} {p : Nat} (h : netAt σ n N) : netAt σ n (N.setW p (N.wt p)) := by
  obtain ⟨h1, h2, h3, h4, h5, h6⟩ := h
  refine ⟨h1, h2, h3, h4, fun i hi => ?_, h6⟩
  have hi : i < N.told := hi
  show _ = nI (if i = p then N.wt p else N.wt i)
  by_cases e : i = p
  · rw [if_pos e, h5 i hi, e]
  · rw [if_neg e]; exact h5 i hi
theorem take2 {σ : GM} {s : RS} {k v : Nat} (hI : rsI s) (hm : mB s) (h : rdC σ s) (ht : tokC σ k v) (he : s.e = 2) (hk : k = 3) : ∃ σ' c, f_X6_takeWeight σ = some (σ', c) ∧ tookC σ s k v σ' c := by
  have hF : tkF s k v = tk2 s k v := by unfold tkF; rw [if_neg (by omega), if_neg (by omega), if_pos he]
  have h1t := hI.2.2.2.2.1 he
  have h12 := hI.1.1
  have hpt := hI.2.2.1 (s.N.told - 1) (by omega)
  obtain ⟨h1, h2, h3, h4, h5⟩ := id h
  obtain ⟨hv, hb⟩ := ht.2.2.2 (Or.inr hk)
  unfold f_X6_takeWeight
  rw [hv, show (1 : Int64) = lN 1 from rfl, show (9 : Int64) = lN 9 from rfl, lcgl (by omega) (by omega)]
  by_cases c : v < 1
  · rw [if_pos c]
    exact ⟨σ, _, rfl, took_f (c := 2) (by rw [hF]; unfold tk2; rw [if_pos hk, if_neg (by omega)]) (by omega) (onlyR.rf σ)⟩
  · rw [if_neg c]
    by_cases d : v ≤ 9
    · have hF2 : tkF s k v = .inr (some ((3, s.f, s.r), s.N.setW (s.N.told - 1) v, s.m)) := by rw [hF]; unfold tk2; rw [if_pos hk, if_pos (by omega)]
      rw [if_pos ((lg_cmp_le _ _).mpr ((pk_lLE (by omega) (by omega)).mpr d)), h4.1, i1, nI_sub (by omega), lN_i]
      have fin : ∀ σ1, fr σ σ1 4 7 → netAt σ1 4 (s.N.setW (s.N.told - 1) v) → ∃ σ' c, (some (wI σ1 3 4 3, (0 : Int32)) : Option (GM × Int32)) = some (σ', c) ∧ tookC σ s k v σ' c := by
        intro σ1 hf hn
        refine ⟨wI σ1 3 4 3, _, rfl, took_s hF2 ⟨?_, ?_, fun z => (by cases z), hn.keep (fr_wI (a := 3) (b := 4) (by omega) (by omega)) (by omega), fun i hi => ?_⟩ hm ((onlyR.f hf).tr (onlyR.w3 (by omega)))⟩
        · rw [wI_1, if_pos ⟨rfl, rfl⟩]; rfl
        · rw [wI_1, if_neg (by omega), (hf 3 (by omega)).1]; exact h2
        · show σ1.2 7 i = _
          rw [(hf 7 (by omega)).2]; exact h5 i hi
      by_cases e : s.N.wt (s.N.told - 1) = v
      · have hs := changeWeight_same h4 hI.1 (p := s.N.told - 1) (by omega) hpt
        rw [e] at hs
        rw [hs, ob2_s, nm_v]
        have hn := h4.cw (p := s.N.told - 1)
        rw [e] at hn
        exact fin σ (fr.rf _ _ _) hn
      · obtain ⟨σ1, r1, r2, r3⟩ := changeWeight_at h4 hI.1 (p := s.N.told - 1) (w := v) (by omega) d hpt e
        rw [r1, ob2_s, nm_v]
        exact fin σ1 r3 r2
    · rw [if_neg (fun z => d ((pk_lLE (by omega) (by omega)).mp ((lg_cmp_le _ _).mp z)))]
      exact ⟨σ, _, rfl, took_f (c := 2) (by rw [hF]; unfold tk2; rw [if_pos hk, if_neg (fun z => d z.2)]) (by omega) (onlyR.rf σ)⟩
theorem take4 {σ : GM} {s : RS} {k v : Nat} (hI : rsI s) (hm : mB s) (h : rdC σ s) (ht : tokC σ k v) (he : s.e = 4) : ∃ σ' c, f_X6_takeFirst σ = some (σ', c) ∧ tookC σ s k v σ' c := by
  have hF : tkF s k v = tk4 s k v := by unfold tkF; rw [if_neg (by omega), if_neg (by omega), if_neg (by omega), if_neg (by omega), if_pos he]
  have h12 := hI.1.1
  obtain ⟨h1, h2, h3, h4, h5⟩ := id h
  unfold f_X6_takeFirst
  rw [isNameC ht, ob_s]
  cases c : isNm k v with
  | false =>
    rw [bz_y rfl]
    exact ⟨σ, _, rfl, took_f (c := 1) (by rw [hF]; unfold tk4; rw [if_neg (by rw [c]; decide)]) (by omega) (onlyR.rf σ)⟩
  | true =>
    have hk : k = 2 := (of_decide_eq_true c).1
    obtain ⟨hv, hb⟩ := ht.2.2.2 (Or.inl hk)
    rw [bz_n rfl, hv, namedC h4 h12 h5 hm hb, ob_s, nm_v]
    have e5 : (wI σ 3 5 (nmI (nmd s v))).1 3 5 = nmI (nmd s v) := by rw [wI_1, if_pos ⟨rfl, rfl⟩]
    rw [e5]
    cases d : nmd s v with
    | none =>
      show ∃ σ' c, (if (-1 : Int32) = -1 then some (wI σ 3 5 (-1), (3 : Int32)) else _) = some (σ', c) ∧ _
      rw [if_pos rfl]
      exact ⟨_, _, rfl, took_f (c := 3) (by rw [hF]; unfold tk4; rw [if_pos c, d]) (by omega) (onlyR.w3 (by omega))⟩
    | some p =>
      have hp := (nmd_s d).1
      have hn1 : netAt (wI σ 3 5 (nI p)) 4 s.N := h4.keep (fr_wI (a := 3) (b := 4) (by omega) (by omega)) (by omega)
      have hd := hI.1.2.2.2.2.2.2.2 p (by omega)
      show ∃ σ' c, (if nI p = -1 then _ else ob (f_X3_endsIn (wI σ 3 5 (nI p)) 4 (nI p) ((wI σ 3 5 (nI p)).1 4 3)) _) = some (σ', c) ∧ _
      rw [if_neg (m1_ne (by omega)), hn1.2.1, endsIn_here hn1 hI.1 (by omega), ob_s, i6]
      by_cases e : dgB s.N.bt p = 6
      · rw [lt_n (by omega) (by omega)]
        refine ⟨_, _, rfl, took_f (c := 5) ?_ (by omega) (onlyR.w3 (by omega))⟩
        rw [hF]; unfold tk4; rw [if_pos c, d]
        show (if dgB s.N.bt p = 6 then _ else _) = _
        rw [if_pos e]
      · rw [lt_y (by omega) (by omega), nm_v]
        refine ⟨_, _, rfl, took_s (s' := ((5, p, s.r), s.2)) ?_ ⟨?_, ?_, fun _ => ?_, hn1.keep (fr_wI (a := 3) (b := 4) (by omega) (by omega)) (by omega), h5⟩ hm ((onlyR.w3 (by omega)).tr (onlyR.w3 (by omega)))⟩
        · rw [hF]; unfold tk4; rw [if_pos c, d]
          show (if dgB s.N.bt p = 6 then _ else _) = _
          rw [if_neg e]
        · rw [wI_1, if_pos ⟨rfl, rfl⟩]; rfl
        · rw [wI_1, if_neg (by omega), wI_1, if_neg (by omega)]; exact h2
        · rw [wI_1, if_neg (by omega), wI_1, if_pos ⟨rfl, rfl⟩]; rfl
theorem take5 {σ : GM} {s : RS} {k v : Nat} (hI : rsI s) (hm : mB s) (h : rdC σ s) (ht : tokC σ k v) (he : s.e = 5) : ∃ σ' c, f_X6_takeSecond σ = some (σ', c) ∧ tookC σ s k v σ' c := by
  have hF : tkF s k v = tk5 s k v := by unfold tkF; rw [if_neg (by omega), if_neg (by omega), if_neg (by omega), if_neg (by omega), if_neg (by omega)]
  have h12 := hI.1.1
  obtain ⟨hf, hfd⟩ := hI.2.2.2.2.2.2 he
  obtain ⟨h1, h2, h3, h4, h5⟩ := id h
  unfold f_X6_takeSecond
  rw [isNameC ht, ob_s]
  cases c : isNm k v with
  | false =>
    rw [bz_y rfl]
    exact ⟨σ, _, rfl, took_f (c := 1) (by rw [hF]; unfold tk5; rw [if_neg (by rw [c]; decide)]) (by omega) (onlyR.rf σ)⟩
  | true =>
    have hk : k = 2 := (of_decide_eq_true c).1
    obtain ⟨hv, hb⟩ := ht.2.2.2 (Or.inl hk)
    rw [bz_n rfl, hv, namedC h4 h12 h5 hm hb, ob_s]
    cases d : nmd s v with
    | none =>
      show ∃ σ' c, (if (-1 : Int32) = -1 then some (σ, (3 : Int32)) else _) = some (σ', c) ∧ _
      rw [if_pos rfl]
      exact ⟨_, _, rfl, took_f (c := 3) (by rw [hF]; unfold tk5; rw [if_pos c, d]) (by omega) (onlyR.rf σ)⟩
    | some p =>
      have hp := (nmd_s d).1
      obtain ⟨j1, j2⟩ := addLine_at h4 hI.1 (a := s.f) (b := p) (by omega) (by omega) (hI.2.2.1 _ hf) (hI.2.2.1 _ hp)
      show ∃ σ' c, (if nI p = -1 then _ else ob2 (f_X3_addLine σ 4 (σ.1 3 5) (nI p)) _) = some (σ', c) ∧ _
      rw [if_neg (m1_ne (by omega)), h3 he]
      cases e : canJ s.N s.f p with
      | false =>
        rw [j2 e, ob2_s, if_pos rfl]
        refine ⟨_, _, rfl, took_f (c := 5) ?_ (by omega) (onlyR.rf σ)⟩
        rw [hF]; unfold tk5; rw [if_pos c, d]
        show (if canJ s.N s.f p = true then _ else _) = _
        rw [if_neg (by rw [e]; decide)]
      | true =>
        obtain ⟨σ1, r1, r2, r3⟩ := j1 e
        rw [r1, ob2_s, if_neg (by decide), nm_v]
        refine ⟨_, _, rfl, took_s (s' := ((3, s.f, s.r), s.N.setL s.f p (s.N.bt s.f p + 1), s.m)) ?_ ⟨?_, ?_, fun z => (by cases z), r2.keep (fr_wI (a := 3) (b := 4) (by omega) (by omega)) (by omega), fun i hi => ?_⟩ hm ((onlyR.f r3).tr (onlyR.w3 (by omega)))⟩
        · rw [hF]; unfold tk5; rw [if_pos c, d]
          show (if canJ s.N s.f p = true then _ else _) = _
          rw [if_pos e]
        · rw [wI_1, if_pos ⟨rfl, rfl⟩]; rfl
        · rw [wI_1, if_neg (by omega), (r3 3 (by omega)).1]; exact h2
        · show σ1.2 7 i = _
          rw [(r3 7 (by omega)).2]; exact h5 i hi
theorem takeToken_at {σ : GM} {s : RS} {k v : Nat} (hI : rsI s) (hm : mB s) (h : rdC σ s) (ht : tokC σ k v) : ∃ σ' c, f_X6_takeToken σ = some (σ', c) ∧ tookC σ s k v σ' c := by
  have h1 := h.1
  have he := hI.2.1
  unfold f_X6_takeToken
  rw [h1, nm_v]
  rcases (show s.e = 0 ∨ s.e = 1 ∨ s.e = 2 ∨ s.e = 3 ∨ s.e = 4 ∨ s.e = 5 by omega) with e | e | e | e | e | e
  · obtain ⟨σ', c, r1, r2⟩ := take0 hI hm h ht e
    rw [e, if_pos (show nI 0 = 0 from rfl), r1, ob2_s]
    exact ⟨σ', c, rfl, r2⟩
  · obtain ⟨σ', c, r1, r2⟩ := take1 hI hm h ht e
    rw [e, if_neg (by decide), if_pos (show nI 1 = 1 from rfl), r1, ob2_s]
    exact ⟨σ', c, rfl, r2⟩
  · rw [e, if_neg (by decide), if_neg (by decide), if_pos (show nI 2 = 2 from rfl), ht.2.2.1, i2]
    by_cases c : k = 3
    · obtain ⟨σ', c', r1, r2⟩ := take2 hI hm h ht e c
      rw [eq_y (by omega), r1, ob2_s]
      exact ⟨σ', c', rfl, r2⟩
    · have hF : tkF s k v = tk3 s k := by unfold tkF tk2; rw [if_neg (by omega), if_neg (by omega), if_pos e, if_neg c]
      obtain ⟨σ', c', r1, r2⟩ := take3 hm h ht hF
      have := ht.1
      have := ht.2.1
      rw [eq_n (by omega) (by omega) (by omega), r1, ob2_s]
      exact ⟨σ', c', rfl, r2⟩
  · have hF : tkF s k v = tk3 s k := by unfold tkF; rw [if_neg (by omega), if_neg (by omega), if_neg (by omega), if_pos e]
    obtain ⟨σ', c', r1, r2⟩ := take3 hm h ht hF
    rw [e, if_neg (by decide), if_neg (by decide), if_neg (by decide), if_pos (show nI 3 = 3 from rfl), r1, ob2_s]
    exact ⟨σ', c', rfl, r2⟩
  · obtain ⟨σ', c, r1, r2⟩ := take4 hI hm h ht e
    rw [e, if_neg (by decide), if_neg (by decide), if_neg (by decide), if_neg (by decide), if_pos (show nI 4 = 4 from rfl), r1, ob2_s]
    exact ⟨σ', c, rfl, r2⟩
  · obtain ⟨σ', c, r1, r2⟩ := take5 hI hm h ht e
    rw [e, if_neg (by decide), if_neg (by decide), if_neg (by decide), if_neg (by decide), if_neg (by decide), if_pos (show nI 5 = 5 from rfl), r1, ob2_s]
    exact ⟨σ', c, rfl, r2⟩
