/-! AN ACT STAYS, in the reference -/
theorem pastR.keep {σ σ' : GM} {L a b : Nat} {P : Nat → NT} (h : pastR σ L P) (hf : fr σ σ' a b) (hn : 65 < a ∨ b ≤ 60 ∨ (60 < a ∧ b ≤ 65)) : pastR σ' L P := by
  obtain ⟨h1, h2, h3⟩ := h
  exact ⟨h1, by rw [(hf 60 (by omega)).1]; exact h2, fun k hk => ⟨(h3 k hk).1, (h3 k hk).2.keep hf (by omega)⟩⟩
def keepY (σ σ' : GM) : Prop := (∀ m, m ≠ 60 → m ≠ 62 → m ≠ 65 → m ≠ 67 → σ'.1 m = σ.1 m ∧ σ'.2 m = σ.2 m) ∧ (∀ i, i ≠ 19 → σ'.1 60 i = σ.1 60 i) ∧ σ'.2 60 = σ.2 60
theorem keepY.f {σ σ' : GM} {a : Nat} (h : fr σ σ' a (a + 1)) (ha : a = 62 ∨ a = 67) : keepY σ σ' := ⟨fun m h1 h2 h3 h4 => h m (by omega), fun i _ => by rw [(h 60 (by omega)).1], (h 60 (by omega)).2⟩
theorem keepY.s {σ σ' : GM} (h : keepS σ σ') : keepY σ σ' := ⟨fun m h1 h2 h3 h4 => h.1 m h3 h1, h.2.1, h.2.2⟩
theorem keepY.tr {a b c : GM} (h : keepY a b) (g : keepY b c) : keepY a c := ⟨fun m h1 h2 h3 h4 => ⟨(g.1 m h1 h2 h3 h4).1.trans (h.1 m h1 h2 h3 h4).1, (g.1 m h1 h2 h3 h4).2.trans (h.1 m h1 h2 h3 h4).2⟩, fun i hi => (g.2.1 i hi).trans (h.2.1 i hi), g.2.2.trans h.2.2⟩
theorem rfAt.cg {σ σ' : GM} {c : Nat} {N : NT} (h : rfAt σ c 0 N) (e : σ'.1 c = σ.1 c) : rfAt σ' c 0 N := by
  obtain ⟨h1, h2, h3, h4, h5⟩ := h
  exact ⟨by rw [e]; exact h1, by rw [e]; exact h2, by rw [e]; exact h3, fun i hi => by rw [e]; exact h4 i hi, fun i hi j hj => by rw [e]; exact h5 i hi j hj⟩
theorem stay_at {σ : GM} {L : Nat} {P : Nat → NT} {N N0 : NT} (h : pastR σ L P) (hr : rfAt σ 62 0 N) (hr0 : rfAt σ 66 0 N0) (ht : N.told ≤ 12) (ht0 : N0.told ≤ 12) :
    ∃ σ', f_X12_stay σ = some σ' ∧ pastR σ' (min (L + 1) 8) (fun k => if k = 0 then N0 else P (k - 1)) ∧ rfAt σ' 62 0 N ∧ keepY σ σ' := by
  obtain ⟨σ1, a1, a2, a3, a4⟩ := copy_at (σ := σ) (qa := 62) (qb := 67) (o := 0) (o' := 0) (za := 159) (zb := 159) (by decide) rfl rfl (by omega) (by omega) (by decide) (by decide)
  have s1 : rfAt σ1 67 0 N := hr.row ht a2
  obtain ⟨σ2, b1, b2, b3, b4⟩ := copy_at (σ := σ1) (qa := 66) (qb := 62) (o := 0) (o' := 0) (za := 159) (zb := 159) (by decide) rfl rfl (by omega) (by omega) (by decide) (by decide)
  have s2 : rfAt σ2 62 0 N0 := (hr0.keep a4 (by omega)).row ht0 b2
  have s3 : rfAt σ2 67 0 N := s1.keep b4 (by omega)
  obtain ⟨σ3, c1, c2, c3⟩ := snap_at ((h.keep a4 (by omega)).keep b4 (by omega)) s2 ht0
  have s4 : rfAt σ3 67 0 N := s3.cg (c3.1 67 (by decide) (by decide)).1
  obtain ⟨σ4, d1, d2, d3, d4⟩ := copy_at (σ := σ3) (qa := 67) (qb := 62) (o := 0) (o' := 0) (za := 159) (zb := 159) (by decide) rfl rfl (by omega) (by omega) (by decide) (by decide)
  refine ⟨σ4, ?_, c2.keep d4 (by omega), s4.row ht d2, (((keepY.f a4 (Or.inr rfl)).tr (keepY.f b4 (Or.inl rfl))).tr (keepY.s c3)).tr (keepY.f d4 (Or.inl rfl))⟩
  unfold f_X12_stay
  rw [show (0 : Int32) = nI 0 from rfl, a1, ob_s, b1, ob_s, c1, ob_s, d1, ob_s]
