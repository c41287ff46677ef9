/-! RINGS APART, as the reference finds them -/
theorem sub_step {u w V : Nat} (hw : w < 4096) (h0 : w ≠ 0) (hu : subS u V) (hwV : subS w V) (hlt : u < w) : u ≤ (w - 1) &&& V := by
  have hm := mod_all w hw h0
  have hK := Nat.two_pow_pos (lo w + 1)
  have hl := Nat.two_pow_pos (lo w)
  have hKl : 2 ^ (lo w + 1) = 2 * 2 ^ lo w := by rw [Nat.pow_succ, Nat.mul_comm]
  have e1 := Nat.div_add_mod w (2 ^ (lo w + 1))
  have e2 := Nat.div_add_mod u (2 ^ (lo w + 1))
  have hul := Nat.mod_lt u hK
  have hw1 : (w - 1) / 2 ^ (lo w + 1) = w / 2 ^ (lo w + 1) ∧ (w - 1) % 2 ^ (lo w + 1) = 2 ^ lo w - 1 := by
    have : w - 1 = 2 ^ (lo w + 1) * (w / 2 ^ (lo w + 1)) + (2 ^ lo w - 1) := by omega
    constructor
    · rw [this, Nat.mul_add_div hK, Nat.div_eq_of_lt (show 2 ^ lo w - 1 < 2 ^ (lo w + 1) by omega), Nat.add_zero]
    · rw [this, Nat.mul_add_mod, Nat.mod_eq_of_lt (show 2 ^ lo w - 1 < 2 ^ (lo w + 1) by omega)]
  have hx : w / 2 ^ (lo w + 1) ≤ ((w - 1) &&& V) / 2 ^ (lo w + 1) := by
    apply subS_le
    intro i hi
    rw [Nat.testBit_div_two_pow, tb_and]
    have h1 := hi
    rw [Nat.testBit_div_two_pow] at h1
    refine ⟨?_, hwV _ h1⟩
    rw [← Nat.testBit_div_two_pow, hw1.1]; exact hi
  have e3 := Nat.div_add_mod ((w - 1) &&& V) (2 ^ (lo w + 1))
  have hq : u / 2 ^ (lo w + 1) ≤ w / 2 ^ (lo w + 1) := Nat.div_le_div_right (by omega)
  rcases Nat.lt_or_ge (u / 2 ^ (lo w + 1)) (w / 2 ^ (lo w + 1)) with c | c
  · have h1 : 2 ^ (lo w + 1) * (u / 2 ^ (lo w + 1) + 1) ≤ 2 ^ (lo w + 1) * (((w - 1) &&& V) / 2 ^ (lo w + 1)) := Nat.mul_le_mul_left _ (by omega)
    rw [Nat.mul_add, Nat.mul_one] at h1
    omega
  · have he : u / 2 ^ (lo w + 1) = w / 2 ^ (lo w + 1) := by omega
    have hur : u % 2 ^ (lo w + 1) < 2 ^ lo w := by
      rw [he] at e2
      omega
    have h2 : u % 2 ^ (lo w + 1) ≤ ((w - 1) &&& V) % 2 ^ (lo w + 1) := by
      apply subS_le
      intro i hi
      have hil : i < lo w := by
        rcases Nat.lt_or_ge i (lo w) with z | z
        · exact z
        · rw [Nat.testBit_lt_two_pow (Nat.lt_of_lt_of_le hur (Nat.pow_le_pow_right (by decide) z))] at hi; cases hi
      rw [Nat.testBit_mod_two_pow, Bool.and_eq_true] at hi ⊢
      refine ⟨hi.1, tb_and.mpr ⟨?_, hu _ hi.2⟩⟩
      have h3 : ((w - 1) % 2 ^ (lo w + 1)).testBit i = true := by
        rw [hw1.2, Nat.testBit_two_pow_sub_one, decide_eq_true_iff]; exact hil
      rw [Nat.testBit_mod_two_pow, Bool.and_eq_true] at h3
      exact h3.2
    have h4 : 2 ^ (lo w + 1) * (u / 2 ^ (lo w + 1)) ≤ 2 ^ (lo w + 1) * (((w - 1) &&& V) / 2 ^ (lo w + 1)) := Nat.mul_le_mul_left _ (by omega)
    omega
theorem apart_in {B : Nat → Nat → Nat} {v : Nat} (hv : v < 4096) (hv0 : v ≠ 0) (hP0 : ¬ isR B 0) (k6 : GM → Int32 → Option GM) : ∀ (k w A : Nat) (a : GM), w < k → subS w (dif v (2 ^ lo v)) → isRt a B → a.1 71 v = nI A → pk (isR B) A v →
    (∀ S, S < v → ∃ m, a.1 71 S = nI m ∧ pkv (isR B) S m) → (∀ u, subS u (dif v (2 ^ lo v)) → w < u → isR B (u ||| 2 ^ lo v) → ∀ m, pk (isR B) m (dif (dif v (2 ^ lo v)) u) → m + 1 ≤ A) →
    ∃ a' A', f_X12_laysApart_L41 k6 (nI v) (nI (2 ^ lo v)) (nI (dif v (2 ^ lo v))) k a (nI w) = k6 a' (nI (v + 1)) ∧ a'.1 71 v = nI A' ∧ A ≤ A' ∧ pk (isR B) A' v ∧ (∀ u, subS u (dif v (2 ^ lo v)) → isR B (u ||| 2 ^ lo v) → ∀ m, pk (isR B) m (dif (dif v (2 ^ lo v)) u) → m + 1 ≤ A') ∧ (∀ S, S ≠ v → a'.1 71 S = a.1 71 S) ∧ fr a a' 71 72 := by
  intro k
  obtain ⟨l1, l2, l3⟩ := lo_all v hv hv0
  have hd4 : dif v (2 ^ lo v) < 4096 := dif_lt (n := 12) hv
  have hdlt := dif_lt' hv l2
  have h2l := p2_lt l1
  induction k with
  | zero => intro w A a h; omega
  | succ k ih =>
    intro w A a h1 h2 h3 h4 h5 h6 h7
    have hw4 := subS_lt h2 hd4
    have hA := pk_pc hP0 A v hv h5
    have hpv := pc_le v 12
    have hwl : w ||| 2 ^ lo v < 4096 := or_lt (n := 12) hw4 h2l
    have hdw := subS_le (dif_sub (b := w) hd4)
    obtain ⟨mr, y1, y2⟩ := h6 (dif (dif v (2 ^ lo v)) w) (by omega)
    have hdd4 : dif (dif v (2 ^ lo v)) w < 4096 := by omega
    have hmr := pk_pc hP0 mr _ hdd4 y2.1
    have hpr := pc_le (dif (dif v (2 ^ lo v)) w) 12
    have hmax : ∀ m, pk (isR B) m (dif (dif v (2 ^ lo v)) w) → m ≤ mr := fun m hm => by
      rcases Nat.lt_or_ge mr m with c | c
      · exact absurd (pk_leq hdd4 c hm) y2.2
      · exact c
    -- going on to the next
    have go : ∀ (a1 : GM) (A1 : Nat), isRt a1 B → a1.1 71 v = nI A1 → A ≤ A1 → pk (isR B) A1 v → (∀ S, S ≠ v → a1.1 71 S = a.1 71 S) → fr a a1 71 72 → (isR B (w ||| 2 ^ lo v) → mr + 1 ≤ A1) →
        ∃ a' A', f_X12_laysApart_L94 k6 (fun σ' v4' => f_X12_laysApart_L41 k6 (nI v) (nI (2 ^ lo v)) (nI (dif v (2 ^ lo v))) k σ' v4') (nI v) (nI (2 ^ lo v)) (nI (dif v (2 ^ lo v))) a1 (nI w) = k6 a' (nI (v + 1)) ∧ a'.1 71 v = nI A' ∧ A ≤ A' ∧ pk (isR B) A' v ∧ (∀ u, subS u (dif v (2 ^ lo v)) → isR B (u ||| 2 ^ lo v) → ∀ m, pk (isR B) m (dif (dif v (2 ^ lo v)) u) → m + 1 ≤ A') ∧ (∀ S, S ≠ v → a'.1 71 S = a.1 71 S) ∧ fr a a' 71 72 := by
      intro a1 A1 g1 g2 g3 g4 g5 g6 g7
      have hall : ∀ u, subS u (dif v (2 ^ lo v)) → w ≤ u → isR B (u ||| 2 ^ lo v) → ∀ m, pk (isR B) m (dif (dif v (2 ^ lo v)) u) → m + 1 ≤ A1 := by
        intro u hu hwu hR m hm
        by_cases e : u = w
        · subst e
          have := hmax m hm
          have := g7 hR
          omega
        · have := h7 u hu (by omega) hR m hm
          omega
      unfold f_X12_laysApart_L94
      by_cases e : w = 0
      · subst e
        refine ⟨a1, A1, ?_, g2, g3, g4, fun u hu hR m hm => hall u hu (Nat.zero_le u) hR m hm, g5, g6⟩
        rw [if_pos (show nI 0 = 0 from rfl), nm_v, i1, nI_add]
      · have hnw : (w - 1) &&& dif v (2 ^ lo v) < w := Nat.lt_of_le_of_lt Nat.and_le_left (by omega)
        obtain ⟨a', A', r1, r2, r3, r4, r5, r6, r7⟩ := ih ((w - 1) &&& dif v (2 ^ lo v)) A1 a1 (by omega) (fun i hi => (tb_and.mp hi).2) g1 g2 g4 (fun S hS => by rw [g5 S (by omega)]; exact h6 S hS) (fun u hu hlt hR m hm => by
          refine hall u hu ?_ hR m hm
          rcases Nat.lt_or_ge u w with z | z
          · have := sub_step hw4 e hu h2 z
            omega
          · exact z)
        refine ⟨a', A', ?_, r2, Nat.le_trans g3 r3, r4, r5, fun S hS => (r6 S hS).trans (g5 S hS), g6.trans r7⟩
        rw [i0, eq_n e (by omega) (by omega), i1, nI_sub (by omega), nI_land, nm_v]
        exact r1
    unfold f_X12_laysApart_L41
    rw [nm_v, nI_lor, bnd_n hwl (by omega), nI_clamp (by omega)]
    by_cases c : isR B (w ||| 2 ^ lo v)
    · have hc := (h3 _ hwl).1 c
      have hne : ¬ a.1 70 (w ||| 2 ^ lo v) = 0 := by rw [hc]; decide
      rw [if_neg hne, nm_v, nI_dif, bnd_n hdd4 (by omega), bnd_n hv (by omega), nI_clamp (by omega), nI_clamp (by omega), y1, h4, i1, nI_add]
      by_cases d : mr + 1 ≤ A
      · rw [le_y d (by omega)]
        exact go a A h3 h4 (Nat.le_refl A) h5 (fun S _ => rfl) (fr.rf _ _ _) (fun _ => d)
      · rw [le_n (by omega) (by omega), nm_v, bnd_n hdd4 (by omega), bnd_n hv (by omega), nm_v, nI_clamp (by omega), y1, nI_add]
        have hsub : subS (w ||| 2 ^ lo v) v := fun i hi => by
          rcases tb_or.mp hi with z | z
          · exact dif_sub hv _ (h2 i z)
          · rw [← tb_two.mp z]; exact l2
        have hdd : dif (dif v (2 ^ lo v)) w = dif v (w ||| 2 ^ lo v) := by
          apply Nat.eq_of_testBit_eq
          intro i
          rw [tb_dif (b32 hd4), tb_dif (b32 hv), tb_dif (b32 hv), Nat.testBit_or]
          cases v.testBit i <;> cases (2 ^ lo v).testBit i <;> cases w.testBit i <;> rfl
        refine go (wI a 71 v (nI (mr + 1))) (mr + 1) (fun S hS => by rw [wI_1, if_neg (by omega)]; exact h3 S hS) (by rw [wI_1, if_pos ⟨rfl, rfl⟩]) (by omega) ⟨_, c, hsub, by rw [← hdd]; exact y2.1⟩ (fun S hS => by rw [wI_1, if_neg (by omega)]) (fr_wI (by omega) (by omega)) (fun _ => Nat.le_refl _)
    · have hc := (h3 _ hwl).2 c
      rw [if_pos hc]
      exact go a A h3 h4 (Nat.le_refl A) h5 (fun S _ => rfl) (fr.rf _ _ _) (fun z => absurd z c)
def apOK (σ : GM) (B : Nat → Nat → Nat) : Prop := ∀ S, S < 4096 → ∃ m, σ.1 71 S = nI m ∧ pkv (isR B) S m
theorem lays6_at {B : Nat → Nat → Nat} (hP0 : ¬ isR B 0) {σ : GM} (hR : isRt σ B) (h0 : σ.1 71 0 = 0) : ∃ σ', f_X12_laysApart_L6 5000 σ (1 : Int32) = some σ' ∧ apOK σ' B ∧ fr σ σ' 71 72 := by
  refine lq 4096 (fun k (a : GM) i => f_X12_laysApart_L6 k a i) (fun q a => 1 ≤ q ∧ (∀ S, S < q → ∃ m, a.1 71 S = nI m ∧ pkv (isR B) S m) ∧ fr σ a 71 72) (fun r => ∃ σ', r = some σ' ∧ apOK σ' B ∧ fr σ σ' 71 72) ?_ ?_ 5000 1 σ (by omega) (by omega) ⟨Nat.le_refl 1, fun S hS => ⟨0, by rw [show S = 0 by omega]; exact h0, by rw [show S = 0 by omega]; exact pkv_0 hP0⟩, fr.rf _ _ _⟩
  · intro k q a hq ⟨g1, g2, g3⟩
    have hq0 : q ≠ 0 := by omega
    obtain ⟨l1, l2, l3⟩ := lo_all q hq hq0
    have hd4 : dif q (2 ^ lo q) < 4096 := dif_lt (n := 12) hq
    have hdl := dif_lt' hq l2
    obtain ⟨m0, z1, z2⟩ := g2 _ hdl
    have hRa : isRt (wI a 71 q (a.1 71 (dif q (2 ^ lo q)))) B := fun S hS => by
      rw [wI_1, if_neg (by omega), (g3 70 (by omega)).1]; exact hR S hS
    obtain ⟨a', A', r1, r2, r3, r4, r5, r6, r7⟩ := apart_in hq hq0 hP0 (fun σ' v1' => f_X12_laysApart_L6 k σ' v1') 5000 (dif q (2 ^ lo q)) m0 (wI a 71 q (a.1 71 (dif q (2 ^ lo q)))) (by omega) (fun _ z => z) hRa (by rw [wI_1, if_pos ⟨rfl, rfl⟩]; exact z1) (pk_mono _ _ _ hq (dif_sub hq) z2.1) (fun S hS => by rw [wI_1, if_neg (by omega)]; exact g2 S hS) (fun u hu hlt => absurd (subS_le hu) (by omega))
    refine Or.inl ⟨a', ⟨by omega, fun S hS => ?_, (g3.trans (fr_wI (by omega) (by omega))).trans r7⟩, fun r hr => ?_⟩
    · by_cases e : S = q
      · subst e
        refine ⟨A', r2, pkv_lo hq l2 z2 r4 r3 (fun r m p1 p2 p3 p4 => ?_)⟩
        have hr4 := subS_lt p2 hq
        have e1 : dif r (2 ^ lo S) ||| 2 ^ lo S = r := by
          apply Nat.eq_of_testBit_eq
          intro i
          apply Bool.eq_iff_iff.mpr
          rw [tb_or, tb_dif1 hr4, tb_two]
          constructor
          · rintro (⟨x, -⟩ | x)
            · exact x
            · rw [← x]; exact p3
          · intro x
            by_cases y : lo S = i
            · exact Or.inr y
            · exact Or.inl ⟨x, fun z => y z.symm⟩
        refine r5 (dif r (2 ^ lo S)) (dif_mono hq p2) (by rw [e1]; exact p1) m ?_
        have e2 : dif (dif S (2 ^ lo S)) (dif r (2 ^ lo S)) = dif S r := by
          apply Nat.eq_of_testBit_eq
          intro i
          apply Bool.eq_iff_iff.mpr
          rw [tb_dif (b32 hd4), Bool.and_eq_true, tb_dif1 hq, tb_dif (b32 hq), Bool.and_eq_true]
          constructor
          · rintro ⟨⟨x, y⟩, z⟩
            refine ⟨x, ?_⟩
            cases f : r.testBit i with
            | false => rfl
            | true =>
              have := (tb_dif1 (p := lo S) hr4).mpr ⟨f, y⟩
              rw [this] at z; cases z
          · rintro ⟨x, y⟩
            refine ⟨⟨x, ?_⟩, ?_⟩
            · rintro rfl; rw [p3] at y; cases y
            · cases f : (dif r (2 ^ lo S)).testBit i with
              | false => rfl
              | true =>
                have := ((tb_dif1 hr4).mp f).1
                rw [this] at y; cases y
        rw [e2]; exact p4
      · rw [r6 S e, wI_1, if_neg (by omega)]
        exact g2 S (by omega)
    · unfold f_X12_laysApart_L6
      rw [show (4096 : Int32) = nI 4096 from rfl, le_n hq (by omega), least_at hq hq0, ob_s, nI_bit l1, nm_v, nI_dif, nm_v, bnd_n hd4 (by omega), bnd_n hq (by omega), nm_v, nI_clamp (by omega), nI_clamp (by omega)]
      exact r1.trans hr
  · intro k a ⟨g1, g2, g3⟩
    refine ⟨a, ?_, fun S hS => g2 S hS, g3⟩
    show f_X12_laysApart_L6 (k + 1) a (nI 4096) = _
    unfold f_X12_laysApart_L6
    rw [show (4096 : Int32) = nI 4096 from rfl, le_y (Nat.le_refl 4096) (by omega)]
