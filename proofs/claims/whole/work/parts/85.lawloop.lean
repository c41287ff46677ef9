/-! THE LAW HOLDS (by genlaw.py): every call, then all of them -/
theorem xl_inv {y : Option (GM × Int32)} {σ : GM} {r : Int64} (h : xl y = some (σ, r)) : ∃ r0, y = some (σ, r0) ∧ r = r0.toInt64 := by
  cases y with
  | none => cases h
  | some p =>
    obtain ⟨σ0, r0⟩ := p
    have h : some (σ0, r0.toInt64) = some (σ, r) := h
    cases h
    exact ⟨r0, rfl, rfl⟩
theorem thrown_at {σ : GM} : f_X12_thrown σ = some (σ.1 60 0) := rfl
theorem bnd01 {β : Type} (y : Option β) : bnd (0 : Int32) 1 y = y := by rw [i0, bnd_n (by omega) (by omega)]
theorem cl0 : (0 : Int32).toNatClampNeg = 0 := rfl
theorem lcr {α : Type} {a : Int64} {x y : α} : (if lg_cmp a a = (0 : Int32) then x else y) = x := if_pos ((lg_cmp_eq _ _).mpr rfl)
theorem law_step (xs : Nat → Int32) (L k j : Nat) (hL : L ≤ 3072) (hj : 6 * j + 6 ≤ L) {σ : GM} {A : AbS} (hC : CI σ A) (hM : MI σ A) (hx : ∀ σ' A', CI σ' A' → MI σ' A' → ∃ σr, f_L_law_L23 xs L k σ' (nI (6 * j) + 6) = some (σr, 1)) :
    ∃ σr, f_L_law_L23 xs L (k + 1) σ (nI (6 * j)) = some (σr, 1) := by
  have hb0 : ∀ {β : Type} (y : Option β), bnd (nI (6 * j)) L y = y := fun y => by rw [bnd_n (by omega) (by omega)]
  have hb1 : ∀ {β : Type} (y : Option β), bnd (nI (6 * j) + 1) L y = y := fun y => by rw [i1, nI_add, bnd_n (by omega) (by omega)]
  have hb2 : ∀ {β : Type} (y : Option β), bnd (nI (6 * j) + 2) L y = y := fun y => by rw [i2, nI_add, bnd_n (by omega) (by omega)]
  have hb3 : ∀ {β : Type} (y : Option β), bnd (nI (6 * j) + 3) L y = y := fun y => by rw [i3, nI_add, bnd_n (by omega) (by omega)]
  have hb4 : ∀ {β : Type} (y : Option β), bnd (nI (6 * j) + 4) L y = y := fun y => by rw [show (4 : Int32) = nI 4 from rfl, nI_add, bnd_n (by omega) (by omega)]
  have hb5 : ∀ {β : Type} (y : Option β), bnd (nI (6 * j) + 5) L y = y := fun y => by rw [show (5 : Int32) = nI 5 from rfl, nI_add, bnd_n (by omega) (by omega)]
  have hgo : ¬ ((Int32.ofNat L) - (6 : Int32)) < nI (6 * j) := by
    show ¬ nI L - 6 < nI (6 * j)
    rw [i6, nI_sub (by omega), clt (by omega) (by omega)]
    omega
  unfold f_L_law_L23
  rw [if_neg hgo, hb0, nm_v]
  generalize (xs (nI (6 * j)).toNatClampNeg &&& 31) = w
  by_cases c0 : w = 0
  · obtain ⟨A', σ1, σ2, r, h1, h2, h3, h4⟩ := feed_ag hC hM (xs (nI (6 * j) + 1).toNatClampNeg) (xs (nI (6 * j) + 2).toNatClampNeg) (xs (nI (6 * j) + 3).toNatClampNeg) (xs (nI (6 * j) + 4).toNatClampNeg) (xs (nI (6 * j) + 5).toNatClampNeg)
    have h1 : f_X11_feed σ (xs (nI (6 * j) + 1).toNatClampNeg) (xs (nI (6 * j) + 2).toNatClampNeg) (xs (nI (6 * j) + 3).toNatClampNeg) (xs (nI (6 * j) + 4).toNatClampNeg) (xs (nI (6 * j) + 5).toNatClampNeg) = some (σ1, r) := h1
    have h2 : f_X12_feed σ1 (xs (nI (6 * j) + 1).toNatClampNeg) (xs (nI (6 * j) + 2).toNatClampNeg) (xs (nI (6 * j) + 3).toNatClampNeg) (xs (nI (6 * j) + 4).toNatClampNeg) (xs (nI (6 * j) + 5).toNatClampNeg) = some (σ2, r) := h2
    rw [if_pos c0, nm_v, hb1, nm_v, hb2, nm_v, hb3, nm_v, hb4, nm_v, hb5, h1, ob2_s, nm_v, hb1, nm_v, hb2, nm_v, hb3, nm_v, hb4, nm_v, hb5, h2, ob2_s, if_pos rfl, nm_v]
    exact hx σ2 A' h3 h4
  rw [if_neg c0]
  by_cases c1 : w = 1
  · obtain ⟨A', σ1, σ2, r, h1, h2, h3, h4⟩ := end_ag hC hM (xs (nI (6 * j) + 1).toNatClampNeg)
    have h1 : f_X11_end σ (xs (nI (6 * j) + 1).toNatClampNeg) = some (σ1, r) := h1
    have h2 : f_X12_end σ1 (xs (nI (6 * j) + 1).toNatClampNeg) = some (σ2, r) := h2
    rw [if_pos c1, nm_v, hb1, h1, ob2_s, nm_v, hb1, h2, ob2_s, if_pos rfl, nm_v]
    exact hx σ2 A' h3 h4
  rw [if_neg c1]
  by_cases c2 : w = 2
  · obtain ⟨A', σ1, σ2, r, h1, h2, h3, h4⟩ := net_ag hC hM
    have h1 : f_X11_net σ = some (σ1, r) := h1
    have h2 : f_X12_net σ1 = some (σ2, r) := h2
    rw [if_pos c2, h1, ob2_s, h2, ob2_s, if_pos rfl, nm_v]
    exact hx σ2 A' h3 h4
  rw [if_neg c2]
  by_cases c3 : w = 3
  · obtain ⟨r, h1, h2⟩ := fault_ag hC hM
    rw [if_pos c3, h1, ob_s, h2, ob2_s, if_pos rfl, nm_v]
    exact hx _ A (hC.keep fr_th (by omega)) hM.th
  rw [if_neg c3]
  by_cases c4 : w = 4
  · obtain ⟨r, h1, h2⟩ := now_ag hC hM (xs (nI (6 * j) + 1).toNatClampNeg)
    rw [if_pos c4, nm_v, hb1, h1, ob_s, nm_v, hb1, h2, ob2_s, if_pos rfl, nm_v]
    exact hx _ A (hC.keep fr_th (by omega)) hM.th
  rw [if_neg c4]
  by_cases c5 : w = 5
  · rcases point_ag hC hM (xs (nI (6 * j) + 1).toNatClampNeg) (xs (nI (6 * j) + 2).toNatClampNeg) with ⟨σ1, σ2, r, h1, h2, h5, h3, h4⟩ | ⟨σ1, σ2, r, h1, h2, h5, h6, h3, h4⟩
    · have h1 : f_L_point σ (xs (nI (6 * j) + 1).toNatClampNeg) (xs (nI (6 * j) + 2).toNatClampNeg) = some (σ1, 1) := h1
      obtain ⟨r0, h2, hr⟩ := xl_inv (y := f_X12_point σ1 (xs (nI (6 * j) + 1).toNatClampNeg) (xs (nI (6 * j) + 2).toNatClampNeg)) h2
      rw [if_pos c5, nm_v, hb1, nm_v, hb2, h1, ob2_s, nm_v, hb1, nm_v, hb2, h2, ob2_s, thrown_at, ob_s, h5, if_pos rfl, if_neg (by decide), nm_v]
      exact hx σ2 A h3 h4
    · have h1 : f_L_point σ (xs (nI (6 * j) + 1).toNatClampNeg) (xs (nI (6 * j) + 2).toNatClampNeg) = some (σ1, 0) := h1
      obtain ⟨r0, h2, hr⟩ := xl_inv (y := f_X12_point σ1 (xs (nI (6 * j) + 1).toNatClampNeg) (xs (nI (6 * j) + 2).toNatClampNeg)) h2
      rw [if_pos c5, nm_v, hb1, nm_v, hb2, h1, ob2_s, nm_v, hb1, nm_v, hb2, h2, ob2_s, thrown_at, ob_s, h5, if_pos rfl, if_pos rfl, bnd01, cl0, h6, hr, lcr, nm_v]
      exact hx σ2 A h3 h4
  rw [if_neg c5]
  by_cases c6 : w = 6
  · obtain ⟨r, h1, h2⟩ := lines_ag hC hM (xs (nI (6 * j) + 1).toNatClampNeg) (xs (nI (6 * j) + 2).toNatClampNeg)
    rw [if_pos c6, nm_v, hb1, nm_v, hb2, h1, ob_s, nm_v, hb1, nm_v, hb2, h2, ob2_s, if_pos rfl, nm_v]
    exact hx _ A (hC.keep fr_th (by omega)) hM.th
  rw [if_neg c6]
  by_cases c7 : w = 7
  · obtain ⟨σ1, σ2, r, h1, h2, h3, h4⟩ := cuts_ag hC hM (xs (nI (6 * j) + 1).toNatClampNeg)
    have h1 : f_X11_cuts σ (xs (nI (6 * j) + 1).toNatClampNeg) = some (σ1, r) := h1
    have h2 : f_X12_cuts σ1 (xs (nI (6 * j) + 1).toNatClampNeg) = some (σ2, r) := h2
    rw [if_pos c7, nm_v, hb1, h1, ob2_s, nm_v, hb1, h2, ob2_s, if_pos rfl, nm_v]
    exact hx σ2 A h3 h4
  rw [if_neg c7]
  by_cases c8 : w = 8
  · obtain ⟨σ1, σ2, r, h1, h2, h3, h4⟩ := fewest_ag hC hM (xs (nI (6 * j) + 1).toNatClampNeg)
    have h1 : f_X11_fewest σ (xs (nI (6 * j) + 1).toNatClampNeg) = some (σ1, r) := h1
    have h2 : f_X12_fewest σ1 (xs (nI (6 * j) + 1).toNatClampNeg) = some (σ2, r) := h2
    rw [if_pos c8, nm_v, hb1, h1, ob2_s, nm_v, hb1, h2, ob2_s, if_pos rfl, nm_v]
    exact hx σ2 A h3 h4
  rw [if_neg c8]
  by_cases c9 : w = 9
  · obtain ⟨σ1, σ2, r, h1, h2, h3, h4⟩ := lightest_ag hC hM (xs (nI (6 * j) + 1).toNatClampNeg)
    have h1 : f_X11_lightest σ (xs (nI (6 * j) + 1).toNatClampNeg) = some (σ1, r) := h1
    have h2 : f_X12_lightest σ1 (xs (nI (6 * j) + 1).toNatClampNeg) = some (σ2, r) := h2
    rw [if_pos c9, nm_v, hb1, h1, ob2_s, nm_v, hb1, h2, ob2_s, if_pos rfl, nm_v]
    exact hx σ2 A h3 h4
  rw [if_neg c9]
  by_cases c10 : w = 10
  · obtain ⟨σ1, σ2, r, h1, h2, h3, h4⟩ := those_ag hC hM (xs (nI (6 * j) + 1).toNatClampNeg)
    have h1 : f_X11_those σ (xs (nI (6 * j) + 1).toNatClampNeg) = some (σ1, r) := h1
    have h2 : f_X12_those σ1 (xs (nI (6 * j) + 1).toNatClampNeg) = some (σ2, r) := h2
    rw [if_pos c10, nm_v, hb1, h1, ob2_s, nm_v, hb1, h2, ob2_s, if_pos rfl, nm_v]
    exact hx σ2 A h3 h4
  rw [if_neg c10]
  by_cases c11 : w = 11
  · obtain ⟨σ1, σ2, r, h1, h2, h3, h4⟩ := sparing_ag hC hM (xs (nI (6 * j) + 1).toNatClampNeg)
    have h1 : f_X11_sparing σ (xs (nI (6 * j) + 1).toNatClampNeg) = some (σ1, r) := h1
    have h2 : f_X12_sparing σ1 (xs (nI (6 * j) + 1).toNatClampNeg) = some (σ2, r) := h2
    rw [if_pos c11, nm_v, hb1, h1, ob2_s, nm_v, hb1, h2, ob2_s, if_pos rfl, nm_v]
    exact hx σ2 A h3 h4
  rw [if_neg c11]
  by_cases c12 : w = 12
  · obtain ⟨σ1, σ2, r, h1, h2, h3, h4⟩ := upTo_ag hC hM (xs (nI (6 * j) + 1).toNatClampNeg)
    have h1 : f_X11_upTo σ (xs (nI (6 * j) + 1).toNatClampNeg) = some (σ1, r) := h1
    have h2 : f_X12_upTo σ1 (xs (nI (6 * j) + 1).toNatClampNeg) = some (σ2, r) := h2
    rw [if_pos c12, nm_v, hb1, h1, ob2_s, nm_v, hb1, h2, ob2_s, if_pos rfl, nm_v]
    exact hx σ2 A h3 h4
  rw [if_neg c12]
  by_cases c13 : w = 13
  · obtain ⟨r, σ2, h1, h2, h3, h4⟩ := rings_ag hC hM
    rw [if_pos c13, h1, ob_s, h2, ob2_s, lcr, nm_v]
    exact hx σ2 A h3 h4
  rw [if_neg c13]
  by_cases c14 : w = 14
  · obtain ⟨σ1, σ2, r, h1, h2, h3, h4⟩ := shortest_ag hC hM
    have h1 : f_X11_shortest σ = some (σ1, r) := h1
    have h2 : f_X12_shortest σ1 = some (σ2, r) := h2
    rw [if_pos c14, h1, ob2_s, h2, ob2_s, if_pos rfl, nm_v]
    exact hx σ2 A h3 h4
  rw [if_neg c14]
  by_cases c15 : w = 15
  · obtain ⟨σ1, σ2, r, h1, h2, h3, h4⟩ := packed_ag hC hM
    have h1 : f_X11_packed σ = some (σ1, r) := h1
    have h2 : f_X12_packed σ1 = some (σ2, r) := h2
    rw [if_pos c15, h1, ob2_s, h2, ob2_s, if_pos rfl, nm_v]
    exact hx σ2 A h3 h4
  rw [if_neg c15]
  by_cases c16 : w = 16
  · obtain ⟨σ1, σ2, r, h1, h2, h3, h4⟩ := pack_ag hC hM (xs (nI (6 * j) + 1).toNatClampNeg)
    have h1 : f_X11_pack σ (xs (nI (6 * j) + 1).toNatClampNeg) = some (σ1, r) := h1
    have h2 : f_X12_pack σ1 (xs (nI (6 * j) + 1).toNatClampNeg) = some (σ2, r) := h2
    rw [if_pos c16, nm_v, hb1, h1, ob2_s, nm_v, hb1, h2, ob2_s, if_pos rfl, nm_v]
    exact hx σ2 A h3 h4
  rw [if_neg c16]
  by_cases c17 : w = 17
  · obtain ⟨σ1, σ2, r, h1, h2, h3, h4⟩ := near_ag hC hM
    have h1 : f_X11_near σ = some (σ1, r) := h1
    have h2 : f_X12_near σ1 = some (σ2, r) := h2
    rw [if_pos c17, h1, ob2_s, h2, ob2_s, if_pos rfl, nm_v]
    exact hx σ2 A h3 h4
  rw [if_neg c17]
  by_cases c18 : w = 18
  · rcases bound_ag hC hM (xs (nI (6 * j) + 1).toNatClampNeg) with ⟨σ1, σ2, r, h1, h2, h5, h3, h4⟩ | ⟨σ1, σ2, r, h1, h2, h5, h6, h3, h4⟩
    · have h1 : f_L_bound σ (xs (nI (6 * j) + 1).toNatClampNeg) = some (σ1, 1) := h1
      have h2 : f_X12_bound σ1 (xs (nI (6 * j) + 1).toNatClampNeg) = some (σ2, r) := h2
      rw [if_pos c18, nm_v, hb1, h1, ob2_s, nm_v, hb1, h2, ob2_s, thrown_at, ob_s, h5, if_pos rfl, if_neg (by decide), nm_v]
      exact hx σ2 A h3 h4
    · have h1 : f_L_bound σ (xs (nI (6 * j) + 1).toNatClampNeg) = some (σ1, 0) := h1
      have h2 : f_X12_bound σ1 (xs (nI (6 * j) + 1).toNatClampNeg) = some (σ2, r) := h2
      rw [if_pos c18, nm_v, hb1, h1, ob2_s, nm_v, hb1, h2, ob2_s, thrown_at, ob_s, h5, if_pos rfl, if_pos rfl, bnd01, cl0, h6, lcr, nm_v]
      exact hx σ2 A h3 h4
  rw [if_neg c18]
  by_cases c19 : w = 19
  · obtain ⟨A', σ1, σ2, r, h1, h2, h3, h4⟩ := shrink_ag hC hM
    have h1 : f_X11_shrink σ = some (σ1, r) := h1
    have h2 : f_X12_shrink σ1 = some (σ2, r) := h2
    rw [if_pos c19, h1, ob2_s, h2, ob2_s, if_pos rfl, nm_v]
    exact hx σ2 A' h3 h4
  rw [if_neg c19]
  by_cases c20 : w = 20
  · obtain ⟨A', σ1, σ2, r, h1, h2, h3, h4⟩ := shrinkAll_ag hC hM
    have h1 : f_X11_shrinkAll σ = some (σ1, r) := h1
    have h2 : f_X12_shrinkAll σ1 = some (σ2, r) := h2
    rw [if_pos c20, h1, ob2_s, h2, ob2_s, if_pos rfl, nm_v]
    exact hx σ2 A' h3 h4
  rw [if_neg c20]
  by_cases c21 : w = 21
  · obtain ⟨A', σ1, σ2, r, h1, h2, h3, h4⟩ := drop_ag hC hM (xs (nI (6 * j) + 1).toNatClampNeg)
    have h1 : f_X11_drop σ (xs (nI (6 * j) + 1).toNatClampNeg) = some (σ1, r) := h1
    have h2 : f_X12_drop σ1 (xs (nI (6 * j) + 1).toNatClampNeg) = some (σ2, r) := h2
    rw [if_pos c21, nm_v, hb1, h1, ob2_s, nm_v, hb1, h2, ob2_s, if_pos rfl, nm_v]
    exact hx σ2 A' h3 h4
  rw [if_neg c21]
  by_cases c22 : w = 22
  · obtain ⟨A', σ1, σ2, r, h1, h2, h3, h4⟩ := join_ag hC hM (xs (nI (6 * j) + 1).toNatClampNeg) (xs (nI (6 * j) + 2).toNatClampNeg)
    have h1 : f_X11_join σ (xs (nI (6 * j) + 1).toNatClampNeg) (xs (nI (6 * j) + 2).toNatClampNeg) = some (σ1, r) := h1
    have h2 : f_X12_join σ1 (xs (nI (6 * j) + 1).toNatClampNeg) (xs (nI (6 * j) + 2).toNatClampNeg) = some (σ2, r) := h2
    rw [if_pos c22, nm_v, hb1, nm_v, hb2, h1, ob2_s, nm_v, hb1, nm_v, hb2, h2, ob2_s, if_pos rfl, nm_v]
    exact hx σ2 A' h3 h4
  rw [if_neg c22]
  by_cases c23 : w = 23
  · obtain ⟨A', σ1, σ2, r, h1, h2, h3, h4⟩ := part_ag hC hM (xs (nI (6 * j) + 1).toNatClampNeg) (xs (nI (6 * j) + 2).toNatClampNeg)
    have h1 : f_X11_part σ (xs (nI (6 * j) + 1).toNatClampNeg) (xs (nI (6 * j) + 2).toNatClampNeg) = some (σ1, r) := h1
    have h2 : f_X12_part σ1 (xs (nI (6 * j) + 1).toNatClampNeg) (xs (nI (6 * j) + 2).toNatClampNeg) = some (σ2, r) := h2
    rw [if_pos c23, nm_v, hb1, nm_v, hb2, h1, ob2_s, nm_v, hb1, nm_v, hb2, h2, ob2_s, if_pos rfl, nm_v]
    exact hx σ2 A' h3 h4
  rw [if_neg c23]
  by_cases c24 : w = 24
  · obtain ⟨A', σ1, σ2, r, h1, h2, h3, h4⟩ := weigh_ag hC hM (xs (nI (6 * j) + 1).toNatClampNeg) (xs (nI (6 * j) + 2).toNatClampNeg)
    have h1 : f_X11_weigh σ (xs (nI (6 * j) + 1).toNatClampNeg) (xs (nI (6 * j) + 2).toNatClampNeg) = some (σ1, r) := h1
    have h2 : f_X12_weigh σ1 (xs (nI (6 * j) + 1).toNatClampNeg) (xs (nI (6 * j) + 2).toNatClampNeg) = some (σ2, r) := h2
    rw [if_pos c24, nm_v, hb1, nm_v, hb2, h1, ob2_s, nm_v, hb1, nm_v, hb2, h2, ob2_s, if_pos rfl, nm_v]
    exact hx σ2 A' h3 h4
  rw [if_neg c24]
  by_cases c25 : w = 25
  · obtain ⟨A', σ1, σ2, r, h1, h2, h3, h4⟩ := drawn_ag hC hM (xs (nI (6 * j) + 1).toNatClampNeg) (xs (nI (6 * j) + 2).toNatClampNeg)
    have h1 : f_X11_drawn σ (xs (nI (6 * j) + 1).toNatClampNeg) (xs (nI (6 * j) + 2).toNatClampNeg) = some (σ1, r) := h1
    have h2 : f_X12_drawn σ1 (xs (nI (6 * j) + 1).toNatClampNeg) (xs (nI (6 * j) + 2).toNatClampNeg) = some (σ2, r) := h2
    rw [if_pos c25, nm_v, hb1, nm_v, hb2, h1, ob2_s, nm_v, hb1, nm_v, hb2, h2, ob2_s, if_pos rfl, nm_v]
    exact hx σ2 A' h3 h4
  rw [if_neg c25]
  by_cases c26 : w = 26
  · obtain ⟨A', σ1, σ2, r, h1, h2, h3, h4⟩ := undo_ag hC hM
    have h1 : f_X11_undo σ = some (σ1, r) := h1
    have h2 : f_X12_undo σ1 = some (σ2, r) := h2
    rw [if_pos c26, h1, ob2_s, h2, ob2_s, if_pos rfl, nm_v]
    exact hx σ2 A' h3 h4
  rw [if_neg c26]
  by_cases c27 : w = 27
  · obtain ⟨A', σ1, σ2, r, h1, h2, h3, h4⟩ := image_ag hC hM (xs (nI (6 * j) + 1).toNatClampNeg)
    have h1 : f_X11_image σ (xs (nI (6 * j) + 1).toNatClampNeg) = some (σ1, r) := h1
    have h2 : f_X12_image σ1 (xs (nI (6 * j) + 1).toNatClampNeg) = some (σ2, r) := h2
    rw [if_pos c27, nm_v, hb1, h1, ob2_s, nm_v, hb1, h2, ob2_s, if_pos rfl, nm_v]
    exact hx σ2 A' h3 h4
  rw [if_neg c27]
  by_cases c28 : w = 28
  · obtain ⟨A', σ1, σ2, r, h1, h2, h3, h4⟩ := restore_ag hC hM (xs (nI (6 * j) + 1).toNatClampNeg)
    have h1 : f_X11_restore σ (xs (nI (6 * j) + 1).toNatClampNeg) = some (σ1, r) := h1
    have h2 : f_X12_restore σ1 (xs (nI (6 * j) + 1).toNatClampNeg) = some (σ2, r) := h2
    rw [if_pos c28, nm_v, hb1, h1, ob2_s, nm_v, hb1, h2, ob2_s, if_pos rfl, nm_v]
    exact hx σ2 A' h3 h4
  rw [if_neg c28]
  rw [nm_v]
  exact hx σ A hC hM
theorem law_loop (xs : Nat → Int32) (L : Nat) (hL : L ≤ 3072) : ∀ (k j : Nat) (σ : GM) (A : AbS), L + 6 < 6 * (j + k) → 6 * j ≤ L + 6 → CI σ A → MI σ A → ∃ σr, f_L_law_L23 xs L k σ (nI (6 * j)) = some (σr, 1) := by
  intro k
  induction k with
  | zero =>
    intro j σ A h1 h2
    omega
  | succ k ih =>
    intro j σ A h1 h2 hC hM
    by_cases hj : 6 * j + 6 ≤ L
    · refine law_step xs L k j hL hj hC hM (fun σ' A' hC' hM' => ?_)
      have := ih (j + 1) σ' A' (by omega) (by omega) hC' hM'
      rw [i6, nI_add]
      exact this
    · refine ⟨σ, ?_⟩
      have hst : ((Int32.ofNat L) - (6 : Int32)) < nI (6 * j) := by
        show nI L - 6 < nI (6 * j)
        by_cases h6 : 6 ≤ L
        · rw [i6, nI_sub h6, clt (by omega) (by omega)]
          omega
        · exact Int32.lt_of_lt_of_le (pk_sneg (b := 6) (by omega) (by omega)) (nI_pos' (by omega))
      unfold f_L_law_L23
      rw [if_pos hst]
def A00 : AbS := (NT.emp, (0, fun _ => NT.emp), (fun _ => (false, NT.emp)), (0, fun _ => 0), 0)
theorem law_true (xs : Nat → Int32) (L : Nat) (hL : L ≤ 3072) : ∃ σr, f_L_law_L23 xs L 5000 (fun j i => if j = 0 ∧ (i = 11 ∨ i = 12 ∨ i = 13) then 1 else 0, fun _ _ => 0) 0 = some (σr, 1) := by
  have h0 : ∀ m i, m ≠ 0 → (fun j i => if j = 0 ∧ (i = 11 ∨ i = 12 ∨ i = 13) then (1 : Int32) else 0) m i = nI 0 := by
    intro m i h
    show (if m = 0 ∧ (i = 11 ∨ i = 12 ∨ i = 13) then (1 : Int32) else 0) = nI 0
    rw [if_neg (fun z => h z.1)]
    rfl
  have hC : CI (fun j i => if j = 0 ∧ (i = 11 ∨ i = 12 ∨ i = 13) then (1 : Int32) else 0, fun _ _ => 0) A00 := by
    refine ⟨⟨⟨⟨h0 8 2 (by omega), h0 8 3 (by omega), h0 8 4 (by omega), ?_, fun i hi => absurd hi (by show ¬ i < 0; omega), fun i hi j hj => h0 10 (12 * i + j) (by omega)⟩, emp_wf⟩, ⟨⟨0, Nat.zero_le _, by omega, h0 11 1 (by omega), h0 11 2 (by omega), fun k hk => absurd hk (by show ¬ k < 0; omega)⟩, fun k hk => absurd hk (by show ¬ k < 0; omega)⟩, fun k hk => ⟨h0 (40 + 4 * k) 1 (by omega), fun z => (by cases z)⟩, ⟨h0 1 1 (by omega), Nat.zero_le _, fun i hi => absurd hi (by show ¬ i < 0; omega)⟩, rfl⟩, Or.inl rfl, Or.inl rfl, Or.inl rfl⟩
    show _ = nI (lcB (fun _ _ => 0))
    rw [lcB_0]
    exact h0 8 5 (by omega)
  have hM : MI (fun j i => if j = 0 ∧ (i = 11 ∨ i = 12 ∨ i = 13) then (1 : Int32) else 0, fun _ _ => 0) A00 :=
    ⟨⟨h0 62 0 (by omega), h0 62 (0 + 1) (by omega), h0 62 (0 + 2) (by omega), fun i hi => absurd hi (by show ¬ i < 0; omega), fun i hi j hj => h0 62 (0 + 15 + 12 * i + j) (by omega)⟩, ⟨Nat.zero_le _, h0 60 19 (by omega), fun k hk => absurd hk (by show ¬ k < 0; omega)⟩, fun k hk => ⟨h0 69 k (by omega), fun z => (by cases z)⟩, ⟨h0 60 2 (by omega), fun i hi => absurd hi (by show ¬ i < 0; omega)⟩, h0 60 8 (by omega), h0 71 0 (by omega)⟩
  exact law_loop xs L hL 5000 0 _ A00 (by omega) (by omega) hC hM
