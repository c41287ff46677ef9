/-! RINGS, COUNTED: ways round -/
def SW (f : Nat → Int64) : Nat → Int64
  | 0 => 0
  | n + 1 => SW f n + f n
def wB (B : Nat → Nat → Nat) (i j : Nat) : Int64 := (nI (B i j)).toInt64
def WW (B : Nat → Nat → Nat) : Nat → Nat → Nat → Nat → Int64
  | 0, _, _, _ => 0
  | d + 1, s, p, v => (if pc v 12 ≤ 2 then 0 else wB B p s) + SW (fun j => if s < j ∧ B p j ≠ 0 ∧ v.testBit j = false then wB B p j * WW B d s j (v ||| 2 ^ j) else 0) 12
/-- the sets that are marked on the way -/
def MK (B : Nat → Nat → Nat) : Nat → Nat → Nat → Nat → Nat → Prop
  | 0, _, _, _, _ => False
  | d + 1, s, p, v, S => (B p s ≠ 0 ∧ 2 < pc v 12 ∧ S = v) ∨ ∃ j, s < j ∧ j < 12 ∧ B p j ≠ 0 ∧ v.testBit j = false ∧ MK B d s j (v ||| 2 ^ j) S
theorem SW_lo {f : Nat → Int64} {n : Nat} (h : ∀ i, i < n → f i = 0) : SW f n = 0 := by
  induction n with
  | zero => rfl
  | succ n ih => rw [SW, ih (fun i hi => h i (by omega)), h n (by omega)]; rfl
theorem waysBack_at {σ : GM} {B : Nat → Nat → Nat} (hB : ptB σ 8 B) (hb : ∀ i j, B i j ≤ 20) : ∀ (d s p v : Nat), s < 12 → p < 12 → v < 4096 → 13 ≤ pc v 12 + d →
    f_X7_waysBack d σ (nI s) (nI p) (nI v) (nI (pc v 12)) = some (WW B d s p v) := by
  intro d
  induction d with
  | zero => intro s p v _ _ _ h; have := pc_le v 12; omega
  | succ d ih =>
    intro s p v hs hp hv h
    have hpc := pc_le v 12
    have key : ∀ z : Int64, f_X7_waysBack_L26 σ (f_X7_waysBack d σ) (nI s) (nI p) (nI v) (nI (pc v 12)) z = some (z + SW (fun j => if s < j ∧ B p j ≠ 0 ∧ v.testBit j = false then wB B p j * WW B d s j (v ||| 2 ^ j) else 0) 12) := by
      intro z
      unfold f_X7_waysBack_L26
      rw [nm_v, i1, nI_add]
      have h0 : SW (fun j => if s < j ∧ B p j ≠ 0 ∧ v.testBit j = false then wB B p j * WW B d s j (v ||| 2 ^ j) else 0) (s + 1) = 0 := SW_lo (fun i hi => if_neg (by omega))
      refine lq 12 (fun k (a : Int64) i => f_X7_waysBack_L33 σ (f_X7_waysBack d σ) (nI s) (nI p) (nI v) (nI (pc v 12)) k a i) (fun q a => s < q ∧ a = z + SW (fun j => if s < j ∧ B p j ≠ 0 ∧ v.testBit j = false then wB B p j * WW B d s j (v ||| 2 ^ j) else 0) q) (fun r => r = some (z + SW (fun j => if s < j ∧ B p j ≠ 0 ∧ v.testBit j = false then wB B p j * WW B d s j (v ||| 2 ^ j) else 0) 12)) ?_ ?_ 5000 (s + 1) z (by omega) (by omega) ⟨by omega, by rw [h0, Int64.add_zero]⟩
      · intro k q a hq ⟨hsq, ha⟩
        subst ha
        have hbq := hb p q
        refine Or.inl ⟨_, ⟨by omega, rfl⟩, fun r hr => ?_⟩
        unfold f_X7_waysBack_L33
        rw [i12, le_n hq (by omega), linesOf_at hB hp hq, ob_s]
        rw [SW] at hr
        by_cases c1 : B p q = 0
        · rw [if_neg (by omega), Int64.add_zero] at hr
          rw [c1, show (0 : Int32) = nI 0 from rfl, le_y (Nat.le_refl 0) (by omega), nm_v, i1, nI_add]
          exact hr
        · rw [i0, le_n (by omega) (by omega), holds_at hv hq, ob_s]
          cases c2 : v.testBit q with
          | true =>
            rw [if_neg (by rw [c2]; simp), Int64.add_zero] at hr
            rw [show (nI 0 : Int32) = 0 from rfl, bz_n rfl, nm_v, i1, nI_add]
            exact hr
          | false =>
            rw [if_pos ⟨hsq, c1, c2⟩] at hr
            have hpp := pc_put (v := v) hq c2
            have hrec := ih s q (v ||| 2 ^ q) hs hq (or_lt (n := 12) hv (p2_lt hq)) (by omega)
            rw [hpp] at hrec
            rw [show (nI 0 : Int32) = 0 from rfl, bz_y rfl, nI_set hq, i1, nI_add, hrec, ob_s, nm_v, nm_v, nI_add, Int64.add_assoc]
            exact hr
      · intro k a ⟨_, ha⟩
        subst ha
        show f_X7_waysBack_L33 σ (f_X7_waysBack d σ) (nI s) (nI p) (nI v) (nI (pc v 12)) (k + 1) _ (nI 12) = _
        unfold f_X7_waysBack_L33
        rw [i12, le_y (Nat.le_refl 12) (by omega)]
    unfold f_X7_waysBack
    rw [i12, le_y hpc (by omega), i2, WW]
    by_cases c : pc v 12 ≤ 2
    · rw [le_y c (by omega), if_pos c, key]
    · rw [le_n (by omega) (by omega), if_neg c, linesOf_at hB hp hs, ob_s, key]
      rfl
/-- only the marks and the count change -/
def keepW (σ σ' : GM) : Prop := (∀ m, m ≠ 70 → σ'.1 m = σ.1 m) ∧ (∀ m i, ¬ (m = 60 ∧ i = 21) → σ'.2 m i = σ.2 m i)
theorem keepW.rf (σ : GM) : keepW σ σ := ⟨fun _ _ => rfl, fun _ _ _ => rfl⟩
theorem keepW.tr {a b c : GM} (h : keepW a b) (g : keepW b c) : keepW a c := ⟨fun m hm => (g.1 m hm).trans (h.1 m hm), fun m i hm => (g.2 m i hm).trans (h.2 m i hm)⟩
theorem keepW.wL {σ : GM} {v : Int64} : keepW σ (wL σ 60 21 v) := ⟨fun _ _ => rfl, fun m i h => by rw [wL_2, if_neg h]⟩
theorem keepW.wI {σ : GM} {k : Nat} {v : Int32} : keepW σ (wI σ 70 k v) := ⟨fun m h => by funext i; rw [wI_1, if_neg (by omega)], fun _ _ _ => rfl⟩
theorem rbB.kw {σ σ' : GM} {B : Nat → Nat → Nat} (h : rbB σ 62 B) (hk : keepW σ σ') : rbB σ' 62 B := fun i hi j hj => by rw [hk.1 62 (by decide)]; exact h i hi j hj
/-- the marks of σ' are those of σ and M -/
def mks (σ σ' : GM) (M : Nat → Prop) : Prop := ∀ S, (M S → σ'.1 70 S = 1) ∧ (¬ M S → σ'.1 70 S = σ.1 70 S)
theorem mks.cong {σ σ' : GM} {M M' : Nat → Prop} (h : mks σ σ' M) (e : ∀ S, M S ↔ M' S) : mks σ σ' M' := fun S => ⟨fun m => (h S).1 ((e S).mpr m), fun m => (h S).2 (fun x => m ((e S).mp x))⟩
theorem mks.tr {a b c : GM} {M M' : Nat → Prop} (h : mks a b M) (g : mks b c M') : mks a c (fun S => M S ∨ M' S) := by
  intro S
  refine ⟨fun m => ?_, fun m => ?_⟩
  · by_cases e : M' S
    · exact (g S).1 e
    · rw [(g S).2 e]
      rcases m with m | m
      · exact (h S).1 m
      · exact absurd m e
  · rw [(g S).2 (fun x => m (Or.inr x)), (h S).2 (fun x => m (Or.inl x))]
theorem mks.rf (σ : GM) : mks σ σ (fun _ => False) := fun _ => ⟨fun m => m.elim, fun _ => rfl⟩
theorem goes_at {B : Nat → Nat → Nat} (hb : ∀ i j, B i j ≤ 20) : ∀ (d s p v : Nat) (σ : GM) (m : Int64), rbB σ 62 B → s < 12 → p < 12 → v < 4096 → v.testBit s = true → v.testBit p = true → 13 ≤ pc v 12 + d →
    ∃ σ', f_X12_goes d σ (nI s) (nI p) (nI v) m = some σ' ∧ σ'.2 60 21 = σ.2 60 21 + m * WW B d s p v ∧ mks σ σ' (MK B d s p v) ∧ keepW σ σ' := by
  intro d
  induction d with
  | zero => intro s p v _ _ _ _ _ _ _ _ h; have := pc_le v 12; omega
  | succ d ih =>
    intro s p v σ m hB hs hp hv hvs hvp h
    have hpc := pc_le v 12
    unfold f_X12_goes
    -- the sum and the marks up to q
    let sF : Nat → Int64 := fun j => if s < j ∧ B p j ≠ 0 ∧ v.testBit j = false then wB B p j * WW B d s j (v ||| 2 ^ j) else 0
    let s0 : Int64 := if pc v 12 ≤ 2 then 0 else wB B p s
    let mF : Nat → Nat → Prop := fun q S => (s < q ∧ B p s ≠ 0 ∧ 2 < pc v 12 ∧ S = v) ∨ ∃ j, s < j ∧ j < q ∧ B p j ≠ 0 ∧ v.testBit j = false ∧ MK B d s j (v ||| 2 ^ j) S
    have hW : WW B (d + 1) s p v = s0 + SW sF 12 := rfl
    have hbs : wB B p s = 0 ∨ B p s ≠ 0 := by
      by_cases c : B p s = 0
      · left; unfold wB; rw [c]; rfl
      · exact Or.inr c
    refine lq 12 (fun k (a : GM) i => f_X12_goes_L3 (f_X12_goes d) (nI s) (nI p) (nI v) m k a i) (fun q a => s ≤ q ∧ a.2 60 21 = σ.2 60 21 + m * ((if s < q then s0 else 0) + SW sF q) ∧ mks σ a (mF q) ∧ keepW σ a) (fun r => ∃ σ', r = some σ' ∧ σ'.2 60 21 = σ.2 60 21 + m * WW B (d + 1) s p v ∧ mks σ σ' (MK B (d + 1) s p v) ∧ keepW σ σ') ?_ ?_ 5000 s σ (by omega) (by omega) ⟨Nat.le_refl s, ?_, (mks.rf σ).cong (fun S => ⟨fun x => x.elim, ?_⟩), keepW.rf σ⟩
    · intro k q a hq ⟨g1, g2, g3, g4⟩
      have hBa := hB.kw g4
      have hbq := hb p q
      by_cases c0 : q = s
      · subst c0
        have hsw : SW sF (q + 1) = 0 := SW_lo (fun i hi => if_neg (by omega))
        have hsw' : SW sF q = 0 := SW_lo (fun i hi => if_neg (by omega))
        have hm0 : ∀ S, ¬ mF q S := by
          rintro S (⟨x, -⟩ | ⟨j, x, y, -⟩)
          · omega
          · omega
        have hg2 : a.2 60 21 = σ.2 60 21 := by
          rw [g2, if_neg (by omega), hsw', Int64.add_zero, Int64.mul_zero, Int64.add_zero]
        have hL66 : ∀ (k3 : GM → Int32 → Option GM) (a1 : GM) (x : Int32), f_X12_goes_L66 (f_X12_goes d) k3 (nI q) (nI p) (nI v) m a1 (nI q) x = k3 a1 (nI (q + 1)) := by
          intro k3 a1 x
          unfold f_X12_goes_L66
          by_cases e : q = p
          · rw [eq_y e, nm_v, i1, nI_add]
          · rw [eq_n e (by omega) (by omega), has_at hv hq, ob_s, bz_n hvs, nm_v, i1, nI_add]
        by_cases c1 : B p q = 0
        · refine Or.inl ⟨a, ⟨by omega, ?_, g3.cong (fun S => ⟨fun x => absurd x (hm0 S), ?_⟩), g4⟩, fun r hr => ?_⟩
          · rw [hg2, if_pos (by omega), hsw]
            have : s0 = 0 := by
              show (if pc v 12 ≤ 2 then 0 else wB B p q) = 0
              split
              · rfl
              · unfold wB; rw [c1]; rfl
            rw [this, Int64.add_zero, Int64.mul_zero, Int64.add_zero]
          · rintro (⟨x, y, -⟩ | ⟨j, x, y, -⟩)
            · exact absurd c1 y
            · omega
          · unfold f_X12_goes_L3
            rw [i12, le_n hq (by omega), between_at hBa hp hq, ob_s, c1, if_pos (show nI 0 = 0 from rfl), nm_v, i1, nI_add]
            exact hr
        · by_cases c2 : pc v 12 ≤ 2
          · refine Or.inl ⟨a, ⟨by omega, ?_, g3.cong (fun S => ⟨fun x => absurd x (hm0 S), ?_⟩), g4⟩, fun r hr => ?_⟩
            · rw [hg2, if_pos (by omega), hsw]
              have : s0 = 0 := if_pos c2
              rw [this, Int64.add_zero, Int64.mul_zero, Int64.add_zero]
            · rintro (⟨x, y, z, -⟩ | ⟨j, x, y, -⟩)
              · omega
              · omega
            · unfold f_X12_goes_L3
              rw [i12, le_n hq (by omega), between_at hBa hp hq, ob_s, i0, eq_n c1 (by omega) (by omega), if_pos rfl, bits_at hv, ob_s, i2, le_y c2 (by omega), hL66]
              exact hr
          · refine Or.inl ⟨wI (wL a 60 21 (a.2 60 21 + m * wB B p q)) 70 v 1, ⟨by omega, ?_, ?_, (g4.tr keepW.wL).tr keepW.wI⟩, fun r hr => ?_⟩
            · rw [wI_2, wL_2, if_pos ⟨rfl, rfl⟩, hg2, if_pos (by omega), hsw, Int64.add_zero]
              have : s0 = wB B p q := if_neg c2
              rw [this]
            · intro S
              rw [wI_1]
              by_cases e : S = v
              · subst e
                rw [if_pos ⟨rfl, rfl⟩]
                exact ⟨fun _ => rfl, fun x => absurd (Or.inl ⟨by omega, c1, by omega, rfl⟩) x⟩
              · rw [if_neg (by omega), wL_1]
                refine ⟨?_, fun _ => (g3 S).2 (hm0 S)⟩
                rintro (⟨x, y, z, t⟩ | ⟨j, x, y, -⟩)
                · exact absurd t e
                · omega
            · unfold f_X12_goes_L3
              rw [i12, le_n hq (by omega), between_at hBa hp hq, ob_s, i0, eq_n c1 (by omega) (by omega), if_pos rfl, bits_at hv, ob_s, i2, le_n (by omega) (by omega), nm_v, show (4096 : Nat) = 4096 from rfl, bnd_n hv (by omega), nm_v, nI_clamp (by omega), hL66]
              exact hr
      · have hsq : s < q := by omega
        have hif : (if s < q + 1 then s0 else 0) = (if s < q then s0 else 0) := by rw [if_pos (by omega), if_pos hsq]
        have hskip : sF q = 0 → (∀ S, ¬ (B p q ≠ 0 ∧ v.testBit q = false ∧ MK B d s q (v ||| 2 ^ q) S)) → (s ≤ q + 1 ∧ a.2 60 21 = σ.2 60 21 + m * ((if s < q + 1 then s0 else 0) + SW sF (q + 1)) ∧ mks σ a (mF (q + 1)) ∧ keepW σ a) := by
          intro h1 h2
          refine ⟨by omega, ?_, g3.cong (fun S => ⟨?_, ?_⟩), g4⟩
          · rw [hif, SW, h1, Int64.add_zero]; exact g2
          · rintro (⟨x, y⟩ | ⟨j, x, y, z⟩)
            · exact Or.inl ⟨by omega, y⟩
            · exact Or.inr ⟨j, x, by omega, z⟩
          · rintro (⟨x, y⟩ | ⟨j, x, y, z⟩)
            · exact Or.inl ⟨by omega, y⟩
            · by_cases e : j = q
              · subst e; exact absurd z (h2 S)
              · exact Or.inr ⟨j, x, by omega, z⟩
        by_cases c1 : B p q = 0
        · refine Or.inl ⟨a, hskip (if_neg (by omega)) (fun S x => x.1 c1), fun r hr => ?_⟩
          unfold f_X12_goes_L3
          rw [i12, le_n hq (by omega), between_at hBa hp hq, ob_s, c1, if_pos (show nI 0 = 0 from rfl), nm_v, i1, nI_add]
          exact hr
        · cases c2 : v.testBit q with
          | true =>
            refine Or.inl ⟨a, hskip (if_neg (by rw [c2]; simp)) (fun S x => by have := x.2.1; rw [c2] at this; cases this), fun r hr => ?_⟩
            unfold f_X12_goes_L3 f_X12_goes_L66
            rw [i12, le_n hq (by omega), between_at hBa hp hq, ob_s, i0, eq_n c1 (by omega) (by omega), eq_n c0 (by omega) (by omega)]
            by_cases e : q = p
            · rw [eq_y e, nm_v, i1, nI_add]
              exact hr
            · rw [eq_n e (by omega) (by omega), has_at hv hq, ob_s, show (nI 0 : Int32) = 0 from rfl, bz_n c2, nm_v, i1, nI_add]
              exact hr
          | false =>
            have hpp := pc_put (v := v) hq c2
            have hqp : q ≠ p := by rintro rfl; rw [c2] at hvp; cases hvp
            obtain ⟨σ1, r1, r2, r3, r4⟩ := ih s q (v ||| 2 ^ q) a (m * wB B p q) hBa hs hq (or_lt (n := 12) hv (p2_lt hq)) (tb_or.mpr (Or.inl hvs)) (tb_or.mpr (Or.inr (tb_two.mpr rfl))) (by omega)
            refine Or.inl ⟨σ1, ⟨by omega, ?_, (g3.tr r3).cong (fun S => ⟨?_, ?_⟩), g4.tr r4⟩, fun r hr => ?_⟩
            · have hsf : sF q = wB B p q * WW B d s q (v ||| 2 ^ q) := if_pos ⟨hsq, c1, c2⟩
              rw [r2, g2, hif, SW, hsf, Int64.mul_assoc, ← Int64.add_assoc (if s < q then s0 else 0), Int64.mul_add (a := m) (b := (if s < q then s0 else 0) + SW sF q) (c := wB B p q * WW B d s q (v ||| 2 ^ q))]
              exact Int64.add_assoc _ _ _
            · rintro ((⟨x, y⟩ | ⟨j, x, y, z⟩) | x)
              · exact Or.inl ⟨by omega, y⟩
              · exact Or.inr ⟨j, x, by omega, z⟩
              · exact Or.inr ⟨q, hsq, by omega, c1, c2, x⟩
            · rintro (⟨x, y⟩ | ⟨j, x, y, z⟩)
              · exact Or.inl (Or.inl ⟨by omega, y⟩)
              · by_cases e : j = q
                · subst e; exact Or.inr z.2.2
                · exact Or.inl (Or.inr ⟨j, x, by omega, z⟩)
            · unfold f_X12_goes_L3 f_X12_goes_L66
              rw [i12, le_n hq (by omega), between_at hBa hp hq, ob_s, i0, eq_n c1 (by omega) (by omega), eq_n c0 (by omega) (by omega), eq_n hqp (by omega) (by omega), has_at hv hq, ob_s, show (nI 0 : Int32) = 0 from rfl, bz_y c2, nI_set hq]
              have r1' : f_X12_goes d a (nI s) (nI q) (nI (v ||| 2 ^ q)) (m * (nI (B p q)).toInt64) = some σ1 := r1
              rw [r1', ob_s, nm_v, i1, nI_add]
              exact hr
    · intro k a ⟨g1, g2, g3, g4⟩
      refine ⟨a, ?_, ?_, g3.cong (fun S => ⟨?_, ?_⟩), g4⟩
      · show f_X12_goes_L3 (f_X12_goes d) (nI s) (nI p) (nI v) m (k + 1) a (nI 12) = _
        unfold f_X12_goes_L3
        rw [i12, le_y (Nat.le_refl 12) (by omega)]
      · rw [g2, if_pos hs, hW]
      · rintro (⟨x, y⟩ | ⟨j, x, y, z⟩)
        · exact Or.inl y
        · exact Or.inr ⟨j, x, y, z⟩
      · rintro (y | ⟨j, x, y, z⟩)
        · exact Or.inl ⟨hs, y⟩
        · exact Or.inr ⟨j, x, y, z⟩
    · have hsw' : SW sF s = 0 := SW_lo (fun i hi => if_neg (by omega))
      rw [if_neg (by omega), hsw', Int64.add_zero, Int64.mul_zero, Int64.add_zero]
    · rintro (⟨x, -⟩ | ⟨j, x, y, -⟩)
      · omega
      · omega
