/-! STRIPPING: what stays when tips go -/
def bzy (B : Nat → Nat → Nat) (U : Nat) : Prop := ∀ x, U.testBit x = true → 2 ≤ dS B U x
def core (B : Nat → Nat → Nat) (S T : Nat) : Prop := subS T S ∧ bzy B T ∧ ∀ U, subS U S → bzy B U → subS U T
theorem core_uni {B : Nat → Nat → Nat} {S T T' : Nat} (h : core B S T) (g : core B S T') : T = T' := by
  have h1 := subS_le (h.2.2 T' g.1 g.2.1)
  have h2 := subS_le (g.2.2 T h.1 h.2.1)
  omega
/-- between S and its core -/
def mid (B : Nat → Nat → Nat) (S V : Nat) : Prop := subS V S ∧ ∀ U, subS U S → bzy B U → subS U V
theorem mid_drop {B : Nat → Nat → Nat} {S V p : Nat} (hV : V < 4096) (h : mid B S V) (hd : dS B V p ≤ 1) : mid B S (dif V (2 ^ p)) := by
  refine ⟨subS_tr (dif_sub hV) h.1, fun U hU hb i hi => ?_⟩
  have hUV := h.2 U hU hb
  refine (tb_dif1 hV).mpr ⟨hUV i hi, ?_⟩
  rintro rfl
  have := hb i hi
  have := dS_mono (B := B) (p := i) hUV
  omega
/-- one sweep from q on -/
def swp (B : Nat → Nat → Nat) (V q : Nat) : Nat := if V.testBit q && decide (dS B V q ≤ 1) then dif V (2 ^ q) else V
theorem swp_lt {B : Nat → Nat → Nat} {V q : Nat} (h : V < 4096) : swp B V q < 4096 := by
  unfold swp
  split
  · exact dif_lt (n := 12) h
  · exact h
theorem swp_mid {B : Nat → Nat → Nat} {S V q : Nat} (hV : V < 4096) (h : mid B S V) : mid B S (swp B V q) := by
  unfold swp
  split
  · rename_i c
    rw [Bool.and_eq_true, decide_eq_true_iff] at c
    exact mid_drop hV h c.2
  · exact h
theorem swp_sub {B : Nat → Nat → Nat} {V q : Nat} (hV : V < 4096) : subS (swp B V q) V := by
  unfold swp
  split
  · exact dif_sub hV
  · exact fun _ h => h
def swps (B : Nat → Nat → Nat) (V : Nat) : Nat → Nat
  | 0 => V
  | q + 1 => swp B (swps B V q) q
theorem swps_lt {B : Nat → Nat → Nat} {V : Nat} (h : V < 4096) : ∀ q, swps B V q < 4096 := by
  intro q
  induction q with
  | zero => exact h
  | succ q ih => exact swp_lt ih
theorem swps_mid {B : Nat → Nat → Nat} {S V : Nat} (hV : V < 4096) (h : mid B S V) : ∀ q, mid B S (swps B V q) := by
  intro q
  induction q with
  | zero => exact h
  | succ q ih => exact swp_mid (swps_lt hV q) ih
theorem swps_sub {B : Nat → Nat → Nat} {V : Nat} (hV : V < 4096) : ∀ q, subS (swps B V q) V := by
  intro q
  induction q with
  | zero => exact fun _ h => h
  | succ q ih => exact subS_tr (swp_sub (swps_lt hV q)) ih
/-- a sweep that changes nothing has found no tip -/
theorem swps_fix {B : Nat → Nat → Nat} {V : Nat} (hV : V < 4096) (h : swps B V 12 = V) : bzy B V := by
  have mono : ∀ i j, i ≤ j → subS (swps B V j) (swps B V i) := by
    intro i j hij
    induction j with
    | zero => rw [show i = 0 by omega]; exact fun _ h => h
    | succ j ih =>
      by_cases e : i = j + 1
      · rw [e]; exact fun _ h => h
      · exact subS_tr (swp_sub (swps_lt hV j)) (ih (by omega))
  have hall : ∀ q, q ≤ 12 → swps B V q = V := by
    intro q hq
    have h1 := subS_le (swps_sub (B := B) hV q)
    have h2 := subS_le (mono q 12 hq)
    omega
  intro x hx
  have hx12 := tb_lt (n := 12) hx hV
  rcases Nat.lt_or_ge (dS B V x) 2 with c | c
  · exfalso
    have h1 : swps B V (x + 1) = V := hall (x + 1) (by omega)
    have h2 : swps B V (x + 1) = swp B V x := by rw [swps, hall x (by omega)]
    have h3 : swp B V x = dif V (2 ^ x) := by unfold swp; rw [hx, decide_eq_true (show dS B V x ≤ 1 by omega)]; rfl
    have := dif_lt' hV hx
    omega
  · exact c
theorem mid_core {B : Nat → Nat → Nat} {S V : Nat} (h : mid B S V) (hb : bzy B V) : core B S V := ⟨h.1, hb, h.2⟩
theorem mid_rf {B : Nat → Nat → Nat} {S : Nat} : mid B S S := ⟨fun _ h => h, fun _ h _ => h⟩
theorem trim_in {σ : GM} {B : Nat → Nat → Nat} (hB : rbB σ 62 B) (hb : ∀ i j, B i j ≤ 20) {V : Nat} (hV : V < 4096) (k4 : Int32 → Int32 → Option Int32) (v3 : Int32) :
    f_X12_trimmed_L14 σ k4 v3 5000 (nI V) (0 : Int32) = k4 (nI (swps B V 12)) v3 := by
  refine lq5 12 (by omega) (fun k (a : Int32) i => f_X12_trimmed_L14 σ k4 v3 k a i) (fun q a => a = nI (swps B V q)) (fun z => z = k4 (nI (swps B V 12)) v3) (nI V) rfl ?_ ?_
  · intro k q a hq ha
    subst ha
    have hl := swps_lt (B := B) hV q
    refine Or.inl ⟨_, rfl, fun r hr => ?_⟩
    unfold f_X12_trimmed_L14
    rw [i12, le_n hq (by omega), has_at hl hq, ob_s]
    rw [swps] at hr
    unfold swp at hr
    cases c : (swps B V q).testBit q with
    | false =>
      rw [c] at hr
      rw [bz_y rfl, nm_v, i1, nI_add]
      exact hr
    | true =>
      have hd := dS_le hb (swps B V q) q
      rw [bz_n rfl, ends_at hB hl hq c, ob_s, i2]
      by_cases e : dS B (swps B V q) q ≤ 1
      · rw [c, decide_eq_true e] at hr
        rw [le_n (by omega) (by omega), nI_bit hq, nI_dif, nm_v, nm_v, i1, nI_add]
        exact hr
      · rw [c, decide_eq_false e] at hr
        rw [le_y (by omega) (by omega), nm_v, i1, nI_add]
        exact hr
  · intro k a ha
    subst ha
    show f_X12_trimmed_L14 σ k4 v3 (k + 1) _ (nI 12) = _
    unfold f_X12_trimmed_L14
    rw [i12, le_y (Nat.le_refl 12) (by omega)]
theorem trimmed_at {σ : GM} {B : Nat → Nat → Nat} (hB : rbB σ 62 B) (hb : ∀ i j, B i j ≤ 20) {S : Nat} (hS : S < 4096) : ∃ T, f_X12_trimmed σ (nI S) = some (nI T) ∧ core B S T := by
  have key : ∀ (k V : Nat) (x : Int32), V < 4096 → mid B S V → ((x = nI V ∧ bzy B V) ∨ x ≠ nI V) → (∀ U, x = nI U → U < 4096 → V < U ∨ U = V) → V + 2 ≤ k → ∃ T, f_X12_trimmed_L4 σ k (nI V) x = some (nI T) ∧ core B S T := by
    intro k
    induction k with
    | zero => intro V x _ _ _ _ h; omega
    | succ k ih =>
      intro V x h1 h2 h3 h4 h5
      unfold f_X12_trimmed_L4
      by_cases e : nI V = x
      · rw [if_pos e]
        rcases h3 with ⟨-, h3⟩ | h3
        · exact ⟨V, rfl, mid_core h2 h3⟩
        · exact absurd e.symm h3
      · rw [if_neg e, trim_in hB hb h1]
        have hl := swps_lt (B := B) h1 12
        have hs := subS_le (swps_sub (B := B) h1 12)
        by_cases f : swps B V 12 = V
        · rw [f]
          obtain ⟨k', rfl⟩ : ∃ k', k = k' + 1 := ⟨k - 1, by omega⟩
          refine ⟨V, ?_, mid_core h2 (swps_fix h1 f)⟩
          unfold f_X12_trimmed_L4
          rw [if_pos rfl]
        · exact ih (swps B V 12) (nI V) hl (swps_mid h1 h2 12) (Or.inr (fun g => f ((nI_eq (by omega) (by omega)).mp g).symm)) (fun U hU hU4 => by
            have := (nI_eq (by omega) (by omega)).mp hU
            omega) (by omega)
  have h0 : (-1 : Int32) ≠ nI S := fun e => m1_ne (by omega) e.symm
  exact key 5000 S (-1) hS mid_rf (Or.inr h0) (fun U hU hU4 => absurd hU.symm (m1_ne (by omega))) (by omega)
