/-! THE RINGS OF A PACKING, ONE AFTER ANOTHER -/
def nthR (P : Nat → Prop) : Nat → Nat → Nat → Prop
  | 0, v, r => nextR P v r
  | k + 1, v, r => ∃ r0, nextR P v r0 ∧ nthR P k (dif v r0) r
theorem nthR_uni {P : Nat → Prop} : ∀ (k v r r' : Nat), nthR P k v r → nthR P k v r' → r = r' := by
  intro k
  induction k with
  | zero => intro v r r' h g; exact nextR_uni h g
  | succ k ih =>
    intro v r r' ⟨a, a1, a2⟩ ⟨b, b1, b2⟩
    have := nextR_uni a1 b1
    subst this
    exact ih _ _ _ a2 b2
theorem nthR_MR {N : NT} (hw : wf N) : ∀ (k v r : Nat), v < 4096 → nthR (isM N.bt N.here) k v r → nthR (isR N.bt) k v r := by
  intro k
  induction k with
  | zero => intro v r hv h; exact nextR_MR hw hv h
  | succ k ih =>
    intro v r hv ⟨a, a1, a2⟩
    exact ⟨a, nextR_MR hw hv a1, ih _ _ (dif_lt (n := 12) hv) a2⟩
theorem ringAt_L {σ : GM} {N : NT} (hw : wf N) (hk : ringsOK σ N.bt N.here) (hp : packOK σ N.bt N.here) {t : Nat} (ht : t < 13) : ∀ (j q V m fuel : Nat) (x : Int32), t = q + j → subS V N.here → pkv (isM N.bt N.here) V m → j < m → j + 2 ≤ fuel →
    ∃ r, f_X4_ringAt_L28 σ (nI t) fuel (nI V) x (nI q) = some (nI r) ∧ nthR (isM N.bt N.here) j V r := by
  intro j
  induction j with
  | zero =>
    intro q V m fuel x h1 h2 h3 h4 h5
    obtain ⟨m', rfl⟩ : ∃ m', m = m' + 1 := ⟨m - 1, by omega⟩
    obtain ⟨f, rfl⟩ : ∃ f, fuel = f + 2 := ⟨fuel - 2, by omega⟩
    obtain ⟨r, r1, r2, r3⟩ := leastOf_at hw hk hp h2 h3
    refine ⟨r, ?_, r2⟩
    unfold f_X4_ringAt_L28
    rw [lt_n (by omega) (by omega), r1, ob_s, nI_dif, nm_v, nm_v, i1, nI_add]
    unfold f_X4_ringAt_L28
    rw [lt_y (by omega) (by omega)]
  | succ j ih =>
    intro q V m fuel x h1 h2 h3 h4 h5
    obtain ⟨m', rfl⟩ : ∃ m', m = m' + 1 := ⟨m - 1, by omega⟩
    obtain ⟨f, rfl⟩ : ∃ f, fuel = f + 1 := ⟨fuel - 1, by omega⟩
    obtain ⟨r0, r1, r2, r3⟩ := leastOf_at hw hk hp h2 h3
    obtain ⟨r, g1, g2⟩ := ih (q + 1) (dif V r0) m' f (nI r0) (by omega) (subS_tr (dif_sub (subS_lt h2 hw.h4096)) h2) r3 (by omega) (by omega)
    refine ⟨r, ?_, r0, r2, g2⟩
    unfold f_X4_ringAt_L28
    rw [lt_n (by omega) (by omega), r1, ob_s, nI_dif, nm_v, nm_v, i1, nI_add]
    exact g1
/-- what pack answers -/
def packA (P : Nat → Prop) (h : Nat) (v : Int32) (r : Int32) : Prop := ∃ m, pkv P h m ∧ ((∃ t x, v = nI t ∧ t < m ∧ r = nI x ∧ nthR P t h x) ∨ ((∀ t, t < m → v ≠ nI t) ∧ r = -1))
theorem packA_uni {P : Nat → Prop} {h : Nat} {v r r' : Int32} (hh : h < 4096) (hm : ∀ m, pkv P h m → m < 100) (a : packA P h v r) (b : packA P h v r') : r = r' := by
  obtain ⟨m, m1, a⟩ := a
  obtain ⟨n, n1, b⟩ := b
  have := pkv_uni hh m1 n1
  subst this
  have h100 := hm m m1
  rcases a with ⟨t, x, rfl, t1, rfl, t2⟩ | ⟨t1, rfl⟩
  · rcases b with ⟨u, y, u0, u1, rfl, u2⟩ | ⟨u1, rfl⟩
    · have : t = u := (nI_eq (by omega) (by omega)).mp u0
      subst this
      rw [nthR_uni _ _ _ _ t2 u2]
    · exact absurd rfl (u1 t t1)
  · rcases b with ⟨u, y, u0, u1, rfl, u2⟩ | ⟨u1, rfl⟩
    · exact absurd u0 (t1 u u1)
    · rfl
theorem packA_MR {N : NT} (hw : wf N) {v r : Int32} (h : packA (isM N.bt N.here) N.here v r) : packA (isR N.bt) N.here v r := by
  obtain ⟨m, m1, a⟩ := h
  refine ⟨m, (pkv_MR hw hw.h4096).mp m1, ?_⟩
  rcases a with ⟨t, x, t0, t1, t3, t2⟩ | a
  · exact Or.inl ⟨t, x, t0, t1, t3, nthR_MR hw _ _ _ hw.h4096 t2⟩
  · exact Or.inr a
theorem isM0 {N : NT} : ¬ isM N.bt N.here 0 := fun h => isM_0 h rfl
theorem isR0 {N : NT} (hw : wf N) : ¬ isR N.bt 0 := fun h => (isR_busy hw.2.2.2.2.1 h).1.1 rfl
theorem ringAtC_at {σ : GM} {N : NT} (hw : wf N) (hk : ringsOK σ N.bt N.here) (hp : packOK σ N.bt N.here) (v : Int32) : ∃ r, f_X4_ringAt σ v (nI N.here) = some r ∧ packA (isM N.bt N.here) N.here v r := by
  have hh := hw.h4096
  obtain ⟨m, m1, m2⟩ := hp N.here (fun _ q => q)
  have hm := pk_pc isM0 m _ hh m2.1
  have hpc := pc_le N.here 12
  unfold f_X4_ringAt
  rw [mostIn_at hh m1, ob_s]
  rcases pk_ix v (n := m) (by omega) with e | e | ⟨t, ht, rfl⟩
  · refine ⟨-1, by rw [if_pos e], m, m2, Or.inr ⟨fun t ht => ?_, rfl⟩⟩
    rintro rfl
    rw [i0, clt (by omega) (by omega)] at e
    omega
  · refine ⟨-1, ?_, m, m2, Or.inr ⟨fun t ht => ?_, rfl⟩⟩
    · by_cases c : v < 0
      · rw [if_pos c]
      · rw [if_neg c, if_neg (Int32.not_lt.mpr e)]
    · rintro rfl
      rw [cle (by omega) (by omega)] at e
      omega
  · obtain ⟨r, r1, r2⟩ := ringAt_L hw hk hp (t := t) (by omega) t 0 N.here m 5000 0 (by omega) (fun _ q => q) m2 ht (by omega)
    refine ⟨nI r, ?_, m, m2, Or.inl ⟨t, r, rfl, ht, rfl, r2⟩⟩
    rw [i0, lt_n (by omega) (by omega), lt_y ht (by omega)]
    exact r1
theorem pack48 {σ : GM} {B : Nat → Nat → Nat} (hP0 : ¬ isR B 0) (hR : isRt σ B) (ha : apOK σ B) (hlt : ∀ S, isR B S → S < 4096) (k40 : GM → Int32 → Int32 → Int32 → Option (GM × Int32)) (v1 : Int32) {V m r c : Nat} (hV : V < 4096) (hm : pkv (isR B) V (m + 1)) (hr : nextR (isR B) V r) :
    f_X12_pack_L48 k40 v1 (nI V) (nI c) 5000 σ (1 : Int32) = k40 σ (nI (dif V r)) (nI r) (nI (c + 1)) := by
  have hr4 := hlt r hr.1
  have hr0 : r ≠ 0 := by rintro rfl; exact hP0 hr.1
  obtain ⟨mv, w1, w2⟩ := ha V hV
  have := pkv_uni hV w2 hm
  subst this
  have hmle := pk_pc hP0 _ _ hV hm.1
  have hpv := pc_le V 12
  have hval : ∀ q, ∃ mq, σ.1 71 (dif V q) = nI mq ∧ mq ≤ 12 ∧ (isR B q → subS q V → (mq = m ↔ pk (isR B) m (dif V q))) := by
    intro q
    have hd4 : dif V q < 4096 := dif_lt (n := 12) hV
    obtain ⟨mq, q1, q2⟩ := ha (dif V q) hd4
    have h1 := pk_pc hP0 _ _ hd4 q2.1
    have h2 := pc_le (dif V q) 12
    refine ⟨mq, q1, by omega, fun a b => ⟨fun e => by rw [← e]; exact q2.1, fun e => ?_⟩⟩
    exact pkv_uni hd4 q2 ⟨e, fun y => hm.2 ⟨q, a, b, y⟩⟩
  refine lq r (fun k (_ : Unit) i => f_X12_pack_L48 k40 v1 (nI V) (nI c) k σ i) (fun q _ => 1 ≤ q) (fun z => z = k40 σ (nI (dif V r)) (nI r) (nI (c + 1))) ?_ ?_ 5000 1 () (by omega) (by omega) (Nat.le_refl 1)
  · intro k q _ hq h1
    have hq4 : q < 4096 := by omega
    have hd4 : dif V q < 4096 := dif_lt (n := 12) hV
    have hdl := dif_lt (b := V) (n := 12) hq4
    refine Or.inl ⟨(), by omega, fun z hz => ?_⟩
    unfold f_X12_pack_L48
    rw [bnd_n hq4 (by omega), nI_clamp (by omega)]
    by_cases e : isR B q
    · have hc := (hR q hq4).1 e
      rw [if_neg (by rw [hc]; decide), nI_dif]
      by_cases f : subS q V
      · obtain ⟨mq, q1, q2, q3⟩ := hval q
        have hne : mq ≠ m := by
          intro g
          have := hr.2.2.2 q e f ⟨m, hm, (q3 e f).mp g⟩
          omega
        rw [(sub_dif (b32 hq4)).mpr f, if_pos (show nI 0 = 0 from rfl), nI_dif, nm_v, bnd_n hd4 (by omega), bnd_n hV (by omega), nI_clamp (by omega), nI_clamp (by omega), q1, w1, i1, nI_sub (by omega), eq_n (by omega) (by omega) (by omega), nm_v, nI_add]
        exact hz
      · have h0 : dif q V ≠ 0 := fun g => f ((sub_dif (b32 hq4)).mp g)
        rw [i0, eq_n h0 (by omega) (by omega), nm_v, i1, nI_add]
        exact hz
    · rw [if_pos ((hR q hq4).2 e), nm_v, i1, nI_add]
      exact hz
  · intro k _ h1
    show f_X12_pack_L48 k40 v1 (nI V) (nI c) (k + 1) σ (nI r) = _
    have hd4 : dif V r < 4096 := dif_lt (n := 12) hV
    obtain ⟨mq, q1, q2, q3⟩ := hval r
    obtain ⟨m', n1, n2⟩ := hr.2.2.1
    have e : m' = m := by have := pkv_uni hV n1 hm; omega
    subst e
    have := (q3 hr.1 hr.2.1).mpr n2
    subst this
    unfold f_X12_pack_L48 f_X12_pack_L92
    rw [bnd_n hr4 (by omega), nI_clamp (by omega), if_neg (by rw [(hR r hr4).1 hr.1]; decide), nI_dif, (sub_dif (b32 hr4)).mpr hr.2.1, if_pos (show nI 0 = 0 from rfl), nI_dif, nm_v, bnd_n hd4 (by omega), bnd_n hV (by omega), nI_clamp (by omega), nI_clamp (by omega), q1, w1, i1, nI_sub (by omega), eq_y (by omega), nm_v, nm_v, nI_add]
theorem nextR_ex {P : Nat → Prop} {V m : Nat} (hm : pkv P V (m + 1)) : ∃ r, nextR P V r := by
  obtain ⟨r, r1, r2, r3⟩ := hm.1
  obtain ⟨k, k1, k2⟩ := pk_least (fun r => P r ∧ subS r V ∧ ∃ m, pkv P V (m + 1) ∧ pk P m (dif V r)) ⟨r, r1, r2, m, hm, r3⟩
  refine ⟨k, k1.1, k1.2.1, k1.2.2, fun r' a b c => ?_⟩
  rcases Nat.lt_or_ge r' k with z | z
  · exact absurd ⟨a, b, c⟩ (k2 r' z)
  · exact z
theorem pack40 {σ : GM} {B : Nat → Nat → Nat} (hP0 : ¬ isR B 0) (hR : isRt σ B) (ha : apOK σ B) (hlt : ∀ S, isR B S → S < 4096) {t : Nat} (ht : t < 13) : ∀ (j q V m fuel x : Nat), t = q + j → V < 4096 → pkv (isR B) V m → j < m → j + 2 ≤ fuel →
    ∃ r, f_X12_pack_L40 (nI t) fuel σ (nI V) (nI x) (nI q) = some (σ, nI r) ∧ nthR (isR B) j V r := by
  intro j
  induction j with
  | zero =>
    intro q V m fuel x h1 h2 h3 h4 h5
    obtain ⟨m', rfl⟩ : ∃ m', m = m' + 1 := ⟨m - 1, by omega⟩
    obtain ⟨f, rfl⟩ : ∃ f, fuel = f + 2 := ⟨fuel - 2, by omega⟩
    obtain ⟨r, hr⟩ := nextR_ex h3
    refine ⟨r, ?_, hr⟩
    unfold f_X12_pack_L40
    rw [lt_n (by omega) (by omega), pack48 hP0 hR ha hlt _ _ h2 h3 hr]
    unfold f_X12_pack_L40
    rw [lt_y (by omega) (by omega)]
  | succ j ih =>
    intro q V m fuel x h1 h2 h3 h4 h5
    obtain ⟨m', rfl⟩ : ∃ m', m = m' + 1 := ⟨m - 1, by omega⟩
    obtain ⟨f, rfl⟩ : ∃ f, fuel = f + 1 := ⟨fuel - 1, by omega⟩
    obtain ⟨r0, hr⟩ := nextR_ex h3
    have hd4 : dif V r0 < 4096 := dif_lt (n := 12) h2
    obtain ⟨m2, n1, n2⟩ := hr.2.2.1
    have e : m2 = m' := by have := pkv_uni h2 n1 h3; omega
    subst e
    obtain ⟨r, g1, g2⟩ := ih (q + 1) (dif V r0) m2 f r0 (by omega) hd4 ⟨n2, fun y => h3.2 ⟨r0, hr.1, hr.2.1, y⟩⟩ (by omega) (by omega)
    refine ⟨r, ?_, r0, hr, g2⟩
    unfold f_X12_pack_L40
    rw [lt_n (by omega) (by omega), pack48 hP0 hR ha hlt _ _ h2 h3 hr]
    exact g1
