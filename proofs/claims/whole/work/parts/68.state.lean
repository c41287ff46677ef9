/-! THE STATE: what both hold between two calls -/
abbrev AbS : Type := NT × (Nat × (Nat → NT)) × (Nat → Bool × NT) × (Nat × (Nat → Nat)) × Nat
abbrev AbS.N (A : AbS) : NT := A.1
abbrev AbS.L (A : AbS) : Nat := A.2.1.1
abbrev AbS.P (A : AbS) : Nat → NT := A.2.1.2
abbrev AbS.K (A : AbS) : Nat → Bool × NT := A.2.2.1
abbrev AbS.t (A : AbS) : Nat := A.2.2.2.1.1
abbrev AbS.b (A : AbS) : Nat → Nat := A.2.2.2.1.2
abbrev AbS.fl (A : AbS) : Nat := A.2.2.2.2
def cKept (σ : GM) (K : Nat → Bool × NT) : Prop := ∀ k, k < 2 → σ.1 (40 + 4 * k) 1 = nI (bI (K k).1) ∧ ((K k).1 = true → netAt σ (41 + 4 * k) (K k).2 ∧ wf (K k).2)
def cTape (σ : GM) (t : Nat) (b : Nat → Nat) : Prop := σ.1 1 1 = nI t ∧ t ≤ 640 ∧ ∀ i, i < t → σ.1 2 i = nI (b i) ∧ b i < 256
def cPast (σ : GM) (L : Nat) (P : Nat → NT) : Prop := (∃ lt, pastAt σ L P lt) ∧ ∀ k, k < L → wf (P k)
def cCache (σ : GM) (N : NT) : Prop := (σ.1 0 11 = 1 ∨ (σ.1 0 11 = 0 ∧ ringsOK σ N.bt N.here)) ∧ (σ.1 0 12 = 1 ∨ (σ.1 0 12 = 0 ∧ σ.1 0 11 = 0 ∧ packOK σ N.bt N.here)) ∧ (σ.1 0 13 = 1 ∨ (σ.1 0 13 = 0 ∧ discOK σ N))
def CB (σ : GM) (A : AbS) : Prop := (netAt σ 8 A.N ∧ wf A.N) ∧ cPast σ A.L A.P ∧ cKept σ A.K ∧ cTape σ A.t A.b ∧ σ.1 0 10 = nI A.fl
def CI (σ : GM) (A : AbS) : Prop := CB σ A ∧ cCache σ A.N
def rKept (σ : GM) (K : Nat → Bool × NT) : Prop := ∀ k, k < 2 → σ.1 69 k = nI (bI (K k).1) ∧ ((K k).1 = true → rfAt σ 64 (159 * k) (K k).2)
def rTape (σ : GM) (t : Nat) (b : Nat → Nat) : Prop := σ.1 60 2 = nI t ∧ ∀ i, i < t → σ.1 61 i = nI (b i)
def MI (σ : GM) (A : AbS) : Prop := rfAt σ 62 0 A.N ∧ pastR σ A.L A.P ∧ rKept σ A.K ∧ rTape σ A.t A.b ∧ σ.1 60 8 = nI A.fl ∧ σ.1 71 0 = 0
/-! frames -/
theorem cKept.keep {σ σ' : GM} {a b : Nat} {K : Nat → Bool × NT} (h : cKept σ K) (hf : fr σ σ' a b) (hn : 48 ≤ a ∨ b ≤ 40) : cKept σ' K := fun k hk => by
  obtain ⟨h1, h2⟩ := h k hk
  refine ⟨by rw [(hf (40 + 4 * k) (by omega)).1]; exact h1, fun e => ⟨(h2 e).1.keep hf (by omega), (h2 e).2⟩⟩
theorem cTape.keep {σ σ' : GM} {a b t : Nat} {f : Nat → Nat} (h : cTape σ t f) (hf : fr σ σ' a b) (hn : 3 ≤ a ∨ b ≤ 1) : cTape σ' t f := by
  obtain ⟨h1, h2, h3⟩ := h
  exact ⟨by rw [(hf 1 (by omega)).1]; exact h1, h2, fun i hi => by rw [(hf 2 (by omega)).1]; exact h3 i hi⟩
theorem cPast.keep {σ σ' : GM} {a b L : Nat} {P : Nat → NT} (h : cPast σ L P) (hf : fr σ σ' a b) (hn : 40 ≤ a ∨ b ≤ 11) : cPast σ' L P := by
  obtain ⟨⟨lt, h1⟩, h2⟩ := h
  exact ⟨⟨lt, h1.keep hf hn⟩, h2⟩
theorem packOK.keep {σ σ' : GM} {B : Nat → Nat → Nat} {h a b : Nat} (H : packOK σ B h) (hf : fr σ σ' a b) (hn : 57 ≤ a ∨ b ≤ 56) : packOK σ' B h := fun S hS => by
  obtain ⟨m, h1, h2⟩ := H S hS
  exact ⟨m, by rw [(hf 56 (by omega)).1]; exact h1, h2⟩
theorem discOK.keep {σ σ' : GM} {N : NT} {a b : Nat} (H : discOK σ N) (hf : fr σ σ' a b) (hn : 58 ≤ a ∨ b ≤ 57) : discOK σ' N := by
  obtain ⟨h1, h2, h3⟩ := H
  have e := hf 57 (by omega)
  exact ⟨by rw [e.1]; exact h1, by rw [e.2]; exact h2, by rw [e.2]; exact h3⟩
theorem CB.keep {σ σ' : GM} {A : AbS} {a b : Nat} (h : CB σ A) (hf : fr σ σ' a b) (hn : 48 ≤ a) : CB σ' A := by
  obtain ⟨⟨h1, h2⟩, h3, h4, h5, h6⟩ := h
  exact ⟨⟨h1.keep hf (by omega), h2⟩, h3.keep hf (by omega), h4.keep hf (by omega), h5.keep hf (by omega), by rw [(hf 0 (by omega)).1]; exact h6⟩
theorem CB.w0 {σ : GM} {A : AbS} {i : Nat} {v : Int32} (h : CB σ A) (hi : i ≠ 10) : CB (wI σ 0 i v) A := by
  have hf : fr σ (wI σ 0 i v) 0 1 := fr_wI (by omega) (by omega)
  obtain ⟨⟨h1, h2⟩, h3, h4, h5, h6⟩ := h
  exact ⟨⟨h1.keep hf (by omega), h2⟩, h3.keep hf (by omega), h4.keep hf (by omega), h5.keep hf (by omega), by rw [wI_1, if_neg (by omega)]; exact h6⟩
theorem CI.keep {σ σ' : GM} {A : AbS} {a b : Nat} (h : CI σ A) (hf : fr σ σ' a b) (hn : 60 ≤ a) : CI σ' A := by
  obtain ⟨h1, h2, h3, h4⟩ := h
  have e := (hf 0 (by omega)).1
  refine ⟨h1.keep hf (by omega), ?_, ?_, ?_⟩
  · rw [e]
    exact h2.imp id (fun x => ⟨x.1, x.2.keep hf (by omega)⟩)
  · rw [e]
    exact h3.imp id (fun x => ⟨x.1, x.2.1, x.2.2.keep hf (by omega)⟩)
  · rw [e]
    exact h4.imp id (fun x => ⟨x.1, x.2.keep hf (by omega)⟩)
theorem MI.keep {σ σ' : GM} {A : AbS} {a b : Nat} (h : MI σ A) (hf : fr σ σ' a b) (hn : b ≤ 60 ∨ 75 ≤ a) : MI σ' A := by
  obtain ⟨h1, h2, h3, h4, h5, h6⟩ := h
  refine ⟨h1.keep hf (by omega), h2.keep hf (by omega), fun k hk => ?_, ⟨?_, fun i hi => ?_⟩, ?_, ?_⟩
  · rw [(hf 69 (by omega)).1]
    exact ⟨(h3 k hk).1, fun e => ((h3 k hk).2 e).keep hf (by omega)⟩
  · rw [(hf 60 (by omega)).1]; exact h4.1
  · rw [(hf 61 (by omega)).1]; exact h4.2 i hi
  · rw [(hf 60 (by omega)).1]; exact h5
  · rw [(hf 71 (by omega)).1]; exact h6
/-- words that MI speaks of stay -/
def keepM (σ σ' : GM) : Prop := (∀ m, m = 61 ∨ m = 62 ∨ m = 64 ∨ m = 65 ∨ m = 69 → σ'.1 m = σ.1 m) ∧ (∀ i, i = 2 ∨ i = 8 ∨ i = 19 → σ'.1 60 i = σ.1 60 i) ∧ σ'.1 71 0 = σ.1 71 0
theorem keepM.rf (σ : GM) : keepM σ σ := ⟨fun _ _ => rfl, fun _ _ => rfl, rfl⟩
theorem keepM.tr {a b c : GM} (h : keepM a b) (g : keepM b c) : keepM a c := ⟨fun m hm => (g.1 m hm).trans (h.1 m hm), fun i hi => (g.2.1 i hi).trans (h.2.1 i hi), g.2.2.trans h.2.2⟩
theorem keepM.w60 {σ : GM} {i : Nat} {v : Int32} (h : i ≠ 2 ∧ i ≠ 8 ∧ i ≠ 19) : keepM σ (wI σ 60 i v) := ⟨fun m hm => (wI_other m (by omega)).1, fun j hj => by rw [wI_1, if_neg (by omega)], by rw [wI_1, if_neg (by omega)]⟩
theorem rfAt.co {σ σ' : GM} {c o : Nat} {N : NT} (h : rfAt σ c o N) (e : σ'.1 c = σ.1 c) : rfAt σ' c o N := by
  obtain ⟨h1, h2, h3, h4, h5⟩ := h
  exact ⟨by rw [e]; exact h1, by rw [e]; exact h2, by rw [e]; exact h3, fun i hi => by rw [e]; exact h4 i hi, fun i hi j hj => by rw [e]; exact h5 i hi j hj⟩
theorem pastR.km {σ σ' : GM} {L : Nat} {P : Nat → NT} (h : pastR σ L P) (hk : keepM σ σ') : pastR σ' L P := by
  obtain ⟨h1, h2, h3⟩ := h
  exact ⟨h1, by rw [hk.2.1 19 (by omega)]; exact h2, fun k hl => ⟨(h3 k hl).1, (h3 k hl).2.co (hk.1 65 (by omega))⟩⟩
theorem MI.km {σ σ' : GM} {A : AbS} (h : MI σ A) (hk : keepM σ σ') : MI σ' A := by
  obtain ⟨h1, h2, h3, h4, h5, h6⟩ := h
  refine ⟨h1.co (hk.1 62 (by omega)), h2.km hk, fun k hl => ?_, ⟨?_, fun i hi => ?_⟩, ?_, ?_⟩
  · rw [hk.1 69 (by omega)]
    exact ⟨(h3 k hl).1, fun e => ((h3 k hl).2 e).co (hk.1 64 (by omega))⟩
  · rw [hk.2.1 2 (by omega)]; exact h4.1
  · rw [hk.1 61 (by omega)]; exact h4.2 i hi
  · rw [hk.2.1 8 (by omega)]; exact h5
  · rw [hk.2.2]; exact h6
/-! what is learnt is learnt once -/
theorem fr_w0 {σ : GM} {i : Nat} {v : Int32} : fr σ (wI σ 0 i v) 0 1 := fr_wI (by omega) (by omega)
theorem ringsNow_at {σ : GM} {A : AbS} (h : CI σ A) : ∃ σ', f_X11_ringsNow σ = some σ' ∧ CI σ' A ∧ ringsOK σ' A.N.bt A.N.here ∧ σ'.1 0 11 = 0 ∧ σ'.1 0 12 = σ.1 0 12 ∧ σ'.1 0 13 = σ.1 0 13 ∧ fr σ σ' 0 60 := by
  obtain ⟨hB, h1, h2, h3⟩ := id h
  unfold f_X11_ringsNow
  rcases h1 with e | ⟨e, hr⟩
  · obtain ⟨σ1, r1, r2, r3⟩ := learn_at hB.1.1 hB.1.2
    have e0 := (r3 0 (by omega)).1
    refine ⟨wI σ1 0 11 0, ?_, ⟨(hB.keep r3 (by omega)).w0 (by omega), ?_, ?_, ?_⟩, r2.keep fr_w0 (by omega), by rw [wI_1, if_pos ⟨rfl, rfl⟩], by rw [wI_1, if_neg (by omega), e0], by rw [wI_1, if_neg (by omega), e0], (r3.wide (by omega) (by omega)).trans (fr_w0.wide (by omega) (by omega))⟩
    · rw [e, if_neg (by decide), r1, ob_s, nm_v]
    · right
      exact ⟨by rw [wI_1, if_pos ⟨rfl, rfl⟩], r2.keep fr_w0 (by omega)⟩
    · left
      rw [wI_1, if_neg (by omega), e0]
      rcases h2 with x | ⟨-, x, -⟩
      · exact x
      · rw [e] at x; exact absurd x (by decide)
    · rw [wI_1, if_neg (by omega), e0]
      exact h3.imp id (fun x => ⟨x.1, (x.2.keep r3 (by omega)).keep fr_w0 (by omega)⟩)
  · exact ⟨σ, by rw [if_pos e], h, hr, e, rfl, rfl, fr.rf _ _ _⟩
theorem packingNow_at {σ : GM} {A : AbS} (h : CI σ A) : ∃ σ', f_X11_packingNow σ = some σ' ∧ CI σ' A ∧ ringsOK σ' A.N.bt A.N.here ∧ packOK σ' A.N.bt A.N.here ∧ fr σ σ' 0 60 := by
  obtain ⟨hB, h1, h2, h3⟩ := id h
  unfold f_X11_packingNow
  rcases h2 with e | ⟨e, e1, hp⟩
  · obtain ⟨σ1, r1, r2, r3, r4, r5, r6, r7⟩ := ringsNow_at h
    obtain ⟨σ2, p1, p2, p3⟩ := packLearn_at hB.1.2 r3
    have e0 := (p3 0 (by omega)).1
    have hr2 := (r3.keep p3 (by omega)).keep (fr_w0 (σ := σ2) (i := 12) (v := 0)) (by omega)
    have hp2 := p2.keep (fr_w0 (σ := σ2) (i := 12) (v := 0)) (by omega)
    refine ⟨wI σ2 0 12 0, ?_, ⟨(r2.1.keep p3 (by omega)).w0 (by omega), ?_, ?_, ?_⟩, hr2, hp2, (r7.trans (p3.wide (by omega) (by omega))).trans (fr_w0.wide (by omega) (by omega))⟩
    · rw [e, if_neg (by decide), r1, ob_s, hB.1.1.2.1, p1, ob_s, nm_v]
    · right
      exact ⟨by rw [wI_1, if_neg (by omega), e0]; exact r4, hr2⟩
    · right
      exact ⟨by rw [wI_1, if_pos ⟨rfl, rfl⟩], by rw [wI_1, if_neg (by omega), e0]; exact r4, hp2⟩
    · rw [wI_1, if_neg (by omega), e0]
      exact r2.2.2.2.imp id (fun x => ⟨x.1, (x.2.keep p3 (by omega)).keep fr_w0 (by omega)⟩)
  · rcases h1 with x | ⟨-, hr⟩
    · rw [e1] at x; exact absurd x (by decide)
    · exact ⟨σ, by rw [if_pos e], h, hr, hp, fr.rf _ _ _⟩
theorem discountNow_at {σ : GM} {A : AbS} (h : CI σ A) : ∃ σ', f_X11_discountNow σ = some σ' ∧ CI σ' A ∧ discOK σ' A.N ∧ fr σ σ' 0 60 := by
  obtain ⟨hB, h1, h2, h3⟩ := id h
  unfold f_X11_discountNow
  rcases h3 with e | ⟨e, hd⟩
  · obtain ⟨σ1, r1, r2, r3, r4, r5, r6, r7⟩ := ringsNow_at h
    obtain ⟨σ2, p1, p2, -, p3⟩ := runC_at r2.1.1.2 r2.1.1.1 r3
    have e0 := (p3 0 (by omega)).1
    have hr2 := (r3.keep p3 (by omega)).keep (fr_w0 (σ := σ2) (i := 13) (v := 0)) (by omega)
    have hp2 := p2.keep (fr_w0 (σ := σ2) (i := 13) (v := 0)) (by omega)
    refine ⟨wI σ2 0 13 0, ?_, ⟨(r2.1.keep p3 (by omega)).w0 (by omega), ?_, ?_, ?_⟩, hp2, (r7.trans (p3.wide (by omega) (by omega))).trans (fr_w0.wide (by omega) (by omega))⟩
    · rw [e, if_neg (by decide), r1, ob_s, p1, ob_s, nm_v]
    · right
      exact ⟨by rw [wI_1, if_neg (by omega), e0]; exact r4, hr2⟩
    · rw [wI_1, if_neg (by omega), e0, wI_1, if_neg (by omega), e0]
      exact r2.2.2.1.imp id (fun x => ⟨x.1, x.2.1, (x.2.2.keep p3 (by omega)).keep fr_w0 (by omega)⟩)
    · right
      exact ⟨by rw [wI_1, if_pos ⟨rfl, rfl⟩], hp2⟩
  · exact ⟨σ, by rw [if_pos e], h, hd, fr.rf _ _ _⟩
