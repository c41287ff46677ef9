/-! LEAVES: how the functions are worked out -/
theorem ob_s {α β : Type} (a : α) (k : α → Option β) : ob (some a) k = k a := rfl
theorem ob2_s {α β γ : Type} (a : α) (b : β) (k : α → β → Option γ) : ob2 (some (a, b)) k = k a b := rfl
theorem nm_v {α β : Type} (x : α) (k : α → β) : nm x k = k x := rfl
theorem bnd_n {β : Type} {i z : Nat} {k : Option β} (h : i < z) (hz : z < 2 ^ 31) : bnd (nI i) z k = k := by
  unfold bnd; rw [if_neg (nI_in h hz)]
theorem nz_n {β : Type} {i : Nat} {k : Option β} (h0 : 0 < i) (h : i < 2 ^ 31) : nz (nI i) k = k := by
  unfold nz; rw [if_neg (nI_ne0 h0 h)]
theorem cle {a b : Nat} (ha : a < 2 ^ 31) (hb : b < 2 ^ 31) : (nI a ≤ nI b) = (a ≤ b) := propext (nI_leI ha hb)
theorem clt {a b : Nat} (ha : a < 2 ^ 31) (hb : b < 2 ^ 31) : (nI a < nI b) = (a < b) := propext (nI_ltI ha hb)
theorem ceq {a b : Nat} (ha : a < 2 ^ 31) (hb : b < 2 ^ 31) : (nI a = nI b) = (a = b) := propext (nI_eq ha hb)
theorem le_y {α : Type} {a b : Nat} {x y : α} (h : a ≤ b) (hb : b < 2 ^ 31) : (if nI a ≤ nI b then x else y) = x := if_pos ((nI_leI (by omega) hb).mpr h)
theorem le_n {α : Type} {a b : Nat} {x y : α} (h : b < a) (ha : a < 2 ^ 31) : (if nI a ≤ nI b then x else y) = y := if_neg (fun q => by have := (nI_leI ha (by omega)).mp q; omega)
theorem lt_y {α : Type} {a b : Nat} {x y : α} (h : a < b) (hb : b < 2 ^ 31) : (if nI a < nI b then x else y) = x := if_pos ((nI_ltI (by omega) hb).mpr h)
theorem lt_n {α : Type} {a b : Nat} {x y : α} (h : b ≤ a) (ha : a < 2 ^ 31) : (if nI a < nI b then x else y) = y := if_neg (fun q => by have := (nI_ltI ha (by omega)).mp q; omega)
theorem eq_y {α : Type} {a b : Nat} {x y : α} (h : a = b) : (if nI a = nI b then x else y) = x := if_pos (by rw [h])
theorem eq_n {α : Type} {a b : Nat} {x y : α} (h : a ≠ b) (ha : a < 2 ^ 31) (hb : b < 2 ^ 31) : (if nI a = nI b then x else y) = y := if_neg (fun q => h ((nI_eq ha hb).mp q))
theorem bz_y {α : Type} {b : Bool} {x y : α} (h : b = false) : (if nI (bI b) = 0 then x else y) = x := by subst h; rfl
theorem bz_n {α : Type} {b : Bool} {x y : α} (h : b = true) : (if nI (bI b) = 0 then x else y) = y := by subst h; rfl
theorem i0 : (0 : Int32) = nI 0 := rfl
theorem i1 : (1 : Int32) = nI 1 := rfl
theorem i2 : (2 : Int32) = nI 2 := rfl
theorem i3 : (3 : Int32) = nI 3 := rfl
theorem i6 : (6 : Int32) = nI 6 := rfl
theorem i9 : (9 : Int32) = nI 9 := rfl
theorem i12 : (12 : Int32) = nI 12 := rfl
theorem i15 : (15 : Int32) = nI 15 := rfl
theorem i20 : (20 : Int32) = nI 20 := rfl
theorem i144 : (144 : Int32) = nI 144 := rfl
theorem i159 : (159 : Int32) = nI 159 := rfl
/-- a net of the class's, at the cell n -/
abbrev NT : Type := (Nat × Nat × Nat) × (Nat → Nat) × (Nat → Nat → Nat)
abbrev NT.told (N : NT) : Nat := N.1.1
abbrev NT.here (N : NT) : Nat := N.1.2.1
abbrev NT.gone (N : NT) : Nat := N.1.2.2
abbrev NT.wt (N : NT) : Nat → Nat := N.2.1
abbrev NT.bt (N : NT) : Nat → Nat → Nat := N.2.2
def ptB (σ : GM) (n : Nat) (B : Nat → Nat → Nat) : Prop := ∀ i, i < 12 → ∀ j, j < 12 → σ.1 (n + 2) (12 * i + j) = nI (B i j)
theorem linesOf_at {σ : GM} {n : Nat} {B : Nat → Nat → Nat} (hB : ptB σ n B) {a b : Nat} (ha : a < 12) (hb : b < 12) : f_X3_linesOf σ n (nI a) (nI b) = some (nI (B a b)) := by
  unfold f_X3_linesOf
  simp (discharger := omega) only [nm_v, i0, i12, i144, nI_add, pk_mul, cle, clt, bnd_n, nI_clamp, if_neg]
  rw [Nat.mul_comm a 12, hB a ha b hb]
theorem holds_at {σ : GM} {s p : Nat} (hs : s < 4096) (hp : p < 12) : f_X3_holds σ (nI s) (nI p) = some (nI (bI (s.testBit p))) := by
  unfold f_X3_holds
  rw [nI_test (by omega) hp]
  cases s.testBit p <;> simp (discharger := omega) only [i0, i12, cle, clt, if_neg] <;> rfl
theorem endsIn_L {σ : GM} {n : Nat} {B : Nat → Nat → Nat} (hB : ptB σ n B) (hb : ∀ i j, B i j ≤ 20) {p s : Nat} (hp : p < 12) (hs : s < 4096) (c : Nat) (hc : c ≤ 20) : ∀ (k q : Nat), q ≤ 12 → 12 < q + k →
    f_X3_endsIn_L10 σ n (nI p) (nI s) k (nI (c + sm (fun j => bI (s.testBit j) * B p j) q)) (nI q) = some (nI (c + sm (fun j => bI (s.testBit j) * B p j) 12)) := by
  intro k
  induction k with
  | zero => intro q h1 h2; omega
  | succ k ih =>
    intro q h1 h2
    unfold f_X3_endsIn_L10
    by_cases hq : q = 12
    · subst hq
      simp (discharger := omega) only [i12, cle, if_pos]
    · have h12 : q < 12 := by omega
      simp (discharger := omega) only [i12, cle, if_neg, holds_at hs h12, ob_s, nI_bI0]
      have ih := ih (q + 1) (by omega) (by omega)
      rw [sm] at ih
      cases ht : s.testBit q with
      | false =>
        simp only [if_pos, nm_v, i1, nI_add]
        simpa [ht, bI] using ih
      | true =>
        simp only [linesOf_at hB hp h12, ob_s, nm_v, i1, nI_add]
        simpa [ht, bI, Nat.add_assoc] using ih
