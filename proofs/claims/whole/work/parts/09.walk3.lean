/-! WALKS 3 (by gen.py) -/
set_option maxRecDepth 20000 in
set_option maxHeartbeats 4000000 in
theorem S_X8_fewestOf (l : Launch) (X : GX) (σ : GM) (v1 : Int32) (v2 : Int32) (x : Int32) (h : f_X8_fewestOf σ v1 v2 = some x) : gMet l yX8_fewestOf cX8_fewestOf 6 (some .int) ({ frames := 1, cells := 0, slots := 0, locals := 21 } : Room) X σ [.ref (X.2.1 + 49), .int v1, .int v2] (gQi X σ x) := by
  unfold f_X8_fewestOf at h
  refine gMet_of (lv := [(0, .ref (X.2.1 + 49)), (1, .int v1), (2, .int v2)]) (by decide) rfl (Nat.le_of_ble_eq_true rfl) rfl (fun p e s m below meth c H ls Γ hI hl => ?_)
  refine lv_iconst (v := (-1 : Int32)) Γ.1.1 Γ.1.2.1 dX8_fewestOf_0 (by decide) ?_
  refine lv_istore_n (lv' := [(3, .int (-1 : Int32)), (0, .ref (X.2.1 + 49)), (1, .int v1), (2, .int v2)]) Γ.1.1 Γ.1.2.1 dX8_fewestOf_1 rfl hl (by decide) rfl (fun ls hl => ?_)
  refine lv_bipush (v := (13 : Int32)) Γ.1.1 Γ.1.2.1 dX8_fewestOf_2 (by decide) ?_
  refine lv_istore (lv' := [(4, .int (13 : Int32)), (3, .int (-1 : Int32)), (0, .ref (X.2.1 + 49)), (1, .int v1), (2, .int v2)]) Γ.1.1 Γ.1.2.1 dX8_fewestOf_4 hl (by decide) rfl (fun ls hl => ?_)
  refine lv_iconst (v := (0 : Int32)) Γ.1.1 Γ.1.2.1 dX8_fewestOf_6 (by decide) ?_
  refine lv_istore (lv' := [(5, .int (0 : Int32)), (4, .int (13 : Int32)), (3, .int (-1 : Int32)), (0, .ref (X.2.1 + 49)), (1, .int v1), (2, .int v2)]) Γ.1.1 Γ.1.2.1 dX8_fewestOf_7 hl (by decide) rfl (fun ls hl => ?_)
  exact s_X8_fewestOf_L9 σ x Γ v1 v2 _ (-1 : Int32) (13 : Int32) (0 : Int32) _ _ _ hI (lv_sub hl [3, 4, 5, 2, 1, 0] rfl) h
set_option maxRecDepth 20000 in
set_option maxHeartbeats 4000000 in
theorem S_X11_tellSet (l : Launch) (X : GX) (σ : GM) (v1 : Int32) (v2 : Int32) (x : Int32) (h : f_X11_tellSet σ v1 v2 = some x) : gMet l yX11_tellSet cX11_tellSet 3 (some .int) ({ frames := 2, cells := 0, slots := 0, locals := 44 } : Room) X σ [.ref (X.2.1 + 0), .int v1, .int v2] (gQi X σ x) := by
  unfold f_X11_tellSet at h
  refine gMet_of (lv := [(0, .ref (X.2.1 + 0)), (1, .int v1), (2, .int v2)]) (by decide) rfl (Nat.le_of_ble_eq_true rfl) rfl (fun p e s m below meth c H ls Γ hI hl => ?_)
  refine lv_iload_n Γ.1.1 Γ.1.2.1 dX11_tellSet_0 rfl (lv_at hl 2 rfl) ?_
  refine lv_if_ne (tgt := 11) Γ.1.1 Γ.1.2.1 dX11_tellSet_1 (by decide) (fun c_1 => ?_) (fun c_1 => ?_)
  · replace h := ite_neg c_1 h; clear c_1
    refine lv_iload_n Γ.1.1 Γ.1.2.1 dX11_tellSet_11 rfl (lv_at hl 2 rfl) ?_
    refine lv_iconst (v := (1 : Int32)) Γ.1.1 Γ.1.2.1 dX11_tellSet_12 (by decide) ?_
    refine lv_icmp_ne (tgt := 20) Γ.1.1 Γ.1.2.1 dX11_tellSet_13 (by decide) (fun c_2 => ?_) (fun c_2 => ?_)
    · replace h := ite_neg c_2 h; clear c_2
      refine lv_aload_n Γ.1.1 Γ.1.2.1 dX11_tellSet_20 rfl (lv_at hl 0 rfl) ?_
      refine get_X11_net Γ hI gw_106 dX11_tellSet_21 ?_
      refine lv_iload_n Γ.1.1 Γ.1.2.1 dX11_tellSet_24 rfl (lv_at hl 1 rfl) ?_
      obtain ⟨r_3, hr_3, h⟩ := ob_some h
      refine g_ci Γ hI (g_runV (As := [.int v1]) Γ hI (S_X3_weightOfSet l X σ 8 sh_8 v1 r_3 hr_3) mf_X3_weightOfSet (recv_X3 sh_8 Γ hI) gw_119 rfl rfl ⟨Nat.le_of_ble_eq_true rfl, Nat.le_of_ble_eq_true rfl⟩ rfl hl.1 rfl (Nat.le_of_ble_eq_true rfl) dX11_tellSet_25 ⟨Nat.zero_le _, Nat.zero_le _⟩) (fun H locs hI => ?_)
      clear hr_3
      exact g_iret Γ hI dX11_tellSet_28 rfl (Option.some.inj h)
    · replace h := ite_pos c_2 h; clear c_2
      refine lv_iload_n Γ.1.1 Γ.1.2.1 dX11_tellSet_16 rfl (lv_at hl 1 rfl) ?_
      refine lv_goto (tgt := 28) Γ.1.1 Γ.1.2.1 dX11_tellSet_17 (by decide) ?_
      exact g_iret Γ hI dX11_tellSet_28 rfl (Option.some.inj h)
  · replace h := ite_pos c_1 h; clear c_1
    refine lv_iload_n Γ.1.1 Γ.1.2.1 dX11_tellSet_4 rfl (lv_at hl 1 rfl) ?_
    obtain ⟨r_5, hr_5, h⟩ := ob_some h
    refine g_ci Γ hI (g_runS (As := [.int v1]) Γ hI (S_J6_bitCount_0f7a4 l X σ v1 r_5 hr_5) mf_J6_bitCount_0f7a4 gw_140 rfl rfl ⟨Nat.le_of_ble_eq_true rfl, Nat.le_of_ble_eq_true rfl⟩ rfl hl.1 rfl (Nat.le_of_ble_eq_true rfl) dX11_tellSet_5 ⟨Nat.zero_le _, Nat.zero_le _⟩) (fun H locs hI => ?_)
    clear hr_5
    refine lv_goto (tgt := 28) Γ.1.1 Γ.1.2.1 dX11_tellSet_8 (by decide) ?_
    exact g_iret Γ hI dX11_tellSet_28 rfl (Option.some.inj h)
set_option maxRecDepth 20000 in
set_option maxHeartbeats 4000000 in
theorem S_X11_fewest (l : Launch) (X : GX) (σ : GM) (v1 : Int32) (σr : GM) (x : Int32) (h : f_X11_fewest σ v1 = some (σr, x)) : gMet l yX11_fewest cX11_fewest 2 (some .int) ({ frames := 5, cells := 0, slots := 0, locals := 110 } : Room) X σ [.ref (X.2.1 + 0), .int v1] (gQi X σr x) := by
  unfold f_X11_fewest at h
  refine gMet_of (lv := [(0, .ref (X.2.1 + 0)), (1, .int v1)]) (by decide) rfl (Nat.le_of_ble_eq_true rfl) rfl (fun p e s m below meth c H ls Γ hI hl => ?_)
  refine lv_iload_n Γ.1.1 Γ.1.2.1 dX11_fewest_0 rfl (lv_at hl 1 rfl) ?_
  refine lv_if_lt (tgt := 9) Γ.1.1 Γ.1.2.1 dX11_fewest_1 (by decide) (fun c_1 => ?_) (fun c_1 => ?_)
  · replace h := ite_pos c_1 h; clear c_1
    refine lv_iconst (v := (-1 : Int32)) Γ.1.1 Γ.1.2.1 dX11_fewest_9 (by decide) ?_
    refine lv_goto (tgt := 33) Γ.1.1 Γ.1.2.1 dX11_fewest_10 (by decide) ?_
    exact g_iret Γ hI dX11_fewest_33 (Prod.mk.inj (Option.some.inj h)).1 (Prod.mk.inj (Option.some.inj h)).2
  · replace h := ite_neg c_1 h; clear c_1
    refine lv_iload_n Γ.1.1 Γ.1.2.1 dX11_fewest_4 rfl (lv_at hl 1 rfl) ?_
    refine lv_iconst (v := (2 : Int32)) Γ.1.1 Γ.1.2.1 dX11_fewest_5 (by decide) ?_
    refine lv_icmp_le (tgt := 13) Γ.1.1 Γ.1.2.1 dX11_fewest_6 (by decide) (fun c_2 => ?_) (fun c_2 => ?_)
    · replace h := ite_pos c_2 h; clear c_2
      refine lv_aload_n Γ.1.1 Γ.1.2.1 dX11_fewest_13 rfl (lv_at hl 0 rfl) ?_
      refine lv_aload_n Γ.1.1 Γ.1.2.1 dX11_fewest_14 rfl (lv_at hl 0 rfl) ?_
      obtain ⟨σ_4, hr_3, h⟩ := ob_some h
      refine g_cr Γ hI (g_runV (As := []) Γ hI (S_X11_ringsNow l X σ σ_4 hr_3) mf_X11_ringsNow (recv_X11 Γ hI) gw_138 rfl rfl ⟨Nat.le_of_ble_eq_true rfl, Nat.le_of_ble_eq_true rfl⟩ rfl hl.1 rfl (Nat.le_of_ble_eq_true rfl) dX11_fewest_15 ⟨Nat.zero_le _, Nat.zero_le _⟩) (fun H locs hI => ?_)
      clear hr_3
      refine lv_aload_n Γ.1.1 Γ.1.2.1 dX11_fewest_18 rfl (lv_at hl 0 rfl) ?_
      refine get_X11_net Γ hI gw_106 dX11_fewest_19 ?_
      refine get_X3_there sh_8 Γ hI gw_115 dX11_fewest_22 ?_
      refine lv_iconst (v := (0 : Int32)) Γ.1.1 Γ.1.2.1 dX11_fewest_25 (by decide) ?_
      obtain ⟨r_5, hr_5, h⟩ := ob_some h
      refine g_ci Γ hI (g_runV (As := [.int (σ_4.1 8 3), .int (0 : Int32)]) Γ hI (S_X8_fewestOf l X σ_4 (σ_4.1 8 3) (0 : Int32) r_5 hr_5) mf_X8_fewestOf (recv_X8 Γ hI) gw_141 rfl rfl ⟨Nat.le_of_ble_eq_true rfl, Nat.le_of_ble_eq_true rfl⟩ rfl hl.1 rfl (Nat.le_of_ble_eq_true rfl) dX11_fewest_26 ⟨Nat.zero_le _, Nat.zero_le _⟩) (fun H locs hI => ?_)
      clear hr_5
      refine lv_iload_n Γ.1.1 Γ.1.2.1 dX11_fewest_29 rfl (lv_at hl 1 rfl) ?_
      obtain ⟨r_7, hr_7, h⟩ := ob_some h
      refine g_ci Γ hI (g_runV (As := [.int r_5, .int v1]) Γ hI (S_X11_tellSet l X σ_4 r_5 v1 r_7 hr_7) mf_X11_tellSet (recv_X11 Γ hI) gw_142 rfl rfl ⟨Nat.le_of_ble_eq_true rfl, Nat.le_of_ble_eq_true rfl⟩ rfl hl.1 rfl (Nat.le_of_ble_eq_true rfl) dX11_fewest_30 ⟨Nat.zero_le _, Nat.zero_le _⟩) (fun H locs hI => ?_)
      clear hr_7
      exact g_iret Γ hI dX11_fewest_33 (Prod.mk.inj (Option.some.inj h)).1 (Prod.mk.inj (Option.some.inj h)).2
    · replace h := ite_neg c_2 h; clear c_2
      refine lv_iconst (v := (-1 : Int32)) Γ.1.1 Γ.1.2.1 dX11_fewest_9 (by decide) ?_
      refine lv_goto (tgt := 33) Γ.1.1 Γ.1.2.1 dX11_fewest_10 (by decide) ?_
      exact g_iret Γ hI dX11_fewest_33 (Prod.mk.inj (Option.some.inj h)).1 (Prod.mk.inj (Option.some.inj h)).2
set_option maxRecDepth 20000 in
set_option maxHeartbeats 4000000 in
theorem s_X11_lightestCut_L25 {p : Program} {l : Launch} {e : Env} {s : State} {m : MethodId} {args : Array Value} {below : List Frame} {meth : Method} {c : Code} {X : GX} (σr : GM) (x : Int32) (Γ : gC X p m meth c cX11_lightestCut 6 s args RX11 (some .int)) :
    ∀ (k : Nat) (σ : GM) (v2 : Int32) (v3 : Int32) (v4 : Int32) (H : Heap) (locs : List Loc) (ls : Array Slot), gI X σ s H locs → lv_has ls 6 [(0, .ref (X.2.1 + 0)), (1, .ref (X.2.1 + 49)), (2, .int v2), (3, .int v3), (4, .int v4)] → f_X11_lightestCut_L25 k σ v2 v3 v4 = some (σr, x) →
    W p l e ({ frames := 5, cells := 0, slots := 0, locals := 110 } : Room) s m args below meth c H locs 0 0 (MQ below (gQi X σr x) args s 0 0 (gA X)) (F0 m 25 ls []) := by
  intro k
  induction k with
  | zero =>
    intro σ v2 v3 v4 H locs ls hI hl h
    exact absurd h (by simp [f_X11_lightestCut_L25])
  | succ k ih =>
    intro σ v2 v3 v4 H locs ls hI hl h
    unfold f_X11_lightestCut_L25 at h
    refine lv_iload Γ.1.1 Γ.1.2.1 dX11_lightestCut_25 (lv_at hl 4 rfl) ?_
    refine lv_aload_n Γ.1.1 Γ.1.2.1 dX11_lightestCut_27 rfl (lv_at hl 0 rfl) ?_
    refine get_X11_net Γ hI gw_106 dX11_lightestCut_28 ?_
    refine get_X3_there sh_8 Γ hI gw_115 dX11_lightestCut_31 ?_
    refine lv_icmp_gt (tgt := 97) Γ.1.1 Γ.1.2.1 dX11_lightestCut_34 (by decide) (fun c_6 => ?_) (fun c_6 => ?_)
    · replace h := ite_pos c_6 h; clear c_6
      refine lv_iload_n Γ.1.1 Γ.1.2.1 dX11_lightestCut_97 rfl (lv_at hl 2 rfl) ?_
      exact g_iret Γ hI dX11_lightestCut_98 (Prod.mk.inj (Option.some.inj h)).1 (Prod.mk.inj (Option.some.inj h)).2
    · replace h := ite_neg c_6 h; clear c_6
      refine lv_aload_n Γ.1.1 Γ.1.2.1 dX11_lightestCut_37 rfl (lv_at hl 0 rfl) ?_
      refine get_X11_net Γ hI gw_106 dX11_lightestCut_38 ?_
      refine lv_iload Γ.1.1 Γ.1.2.1 dX11_lightestCut_41 (lv_at hl 4 rfl) ?_
      obtain ⟨r_7, hr_7, h⟩ := ob_some h
      refine g_ci Γ hI (g_runV (As := [.int v4]) Γ hI (S_X3_areThere l X σ 8 sh_8 v4 r_7 hr_7) mf_X3_areThere (recv_X3 sh_8 Γ hI) gw_137 rfl rfl ⟨Nat.le_of_ble_eq_true rfl, Nat.le_of_ble_eq_true rfl⟩ rfl hl.1 rfl (Nat.le_of_ble_eq_true rfl) dX11_lightestCut_43 ⟨Nat.zero_le _, Nat.zero_le _⟩) (fun H locs hI => ?_)
      clear hr_7
      refine lv_if_eq (tgt := 91) Γ.1.1 Γ.1.2.1 dX11_lightestCut_46 (by decide) (fun c_9 => ?_) (fun c_9 => ?_)
      · replace h := ite_pos c_9 h; clear c_9
        obtain ⟨v4_10, e_v4_10, h⟩ := nm_some h
        refine lv_iinc (v := v4_10) (lv' := [(4, .int v4_10), (0, .ref (X.2.1 + 0)), (1, .ref (X.2.1 + 49)), (2, .int v2), (3, .int v3)]) Γ.1.1 Γ.1.2.1 dX11_lightestCut_91 hl (k := 4) rfl (by rw [e_v4_10]; rfl) (by decide) rfl (fun ls hl => ?_)
        clear e_v4_10
        refine lv_goto (tgt := 25) Γ.1.1 Γ.1.2.1 dX11_lightestCut_94 (by decide) ?_
        exact ih σ v2 v3 v4_10 _ _ _ hI (lv_sub hl [1, 2, 3, 4, 0] rfl) h
      · replace h := ite_neg c_9 h; clear c_9
        refine lv_aload_n Γ.1.1 Γ.1.2.1 dX11_lightestCut_49 rfl (lv_at hl 1 rfl) ?_
        refine lv_aload_n Γ.1.1 Γ.1.2.1 dX11_lightestCut_50 rfl (lv_at hl 0 rfl) ?_
        refine get_X11_net Γ hI gw_106 dX11_lightestCut_51 ?_
        refine get_X3_there sh_8 Γ hI gw_115 dX11_lightestCut_54 ?_
        refine lv_iload Γ.1.1 Γ.1.2.1 dX11_lightestCut_57 (lv_at hl 4 rfl) ?_
        refine lv_iconst (v := (-1 : Int32)) Γ.1.1 Γ.1.2.1 dX11_lightestCut_59 (by decide) ?_
        refine lv_ixor Γ.1.1 Γ.1.2.1 dX11_lightestCut_60 ?_
        refine lv_iand Γ.1.1 Γ.1.2.1 dX11_lightestCut_61 ?_
        obtain ⟨r_11, hr_11, h⟩ := ob_some h
        refine g_ci Γ hI (g_runV (As := [.int ((σ.1 8 3) &&& (v4 ^^^ (-1 : Int32)))]) Γ hI (S_X8_isFree l X σ ((σ.1 8 3) &&& (v4 ^^^ (-1 : Int32))) r_11 hr_11) mf_X8_isFree (recv_X8 Γ hI) gw_139 rfl rfl ⟨Nat.le_of_ble_eq_true rfl, Nat.le_of_ble_eq_true rfl⟩ rfl hl.1 rfl (Nat.le_of_ble_eq_true rfl) dX11_lightestCut_62 ⟨Nat.zero_le _, Nat.zero_le _⟩) (fun H locs hI => ?_)
        clear hr_11
        refine lv_if_eq (tgt := 91) Γ.1.1 Γ.1.2.1 dX11_lightestCut_65 (by decide) (fun c_13 => ?_) (fun c_13 => ?_)
        · replace h := ite_pos c_13 h; clear c_13
          obtain ⟨v4_14, e_v4_14, h⟩ := nm_some h
          refine lv_iinc (v := v4_14) (lv' := [(4, .int v4_14), (0, .ref (X.2.1 + 0)), (1, .ref (X.2.1 + 49)), (2, .int v2), (3, .int v3)]) Γ.1.1 Γ.1.2.1 dX11_lightestCut_91 hl (k := 4) rfl (by rw [e_v4_14]; rfl) (by decide) rfl (fun ls hl => ?_)
          clear e_v4_14
          refine lv_goto (tgt := 25) Γ.1.1 Γ.1.2.1 dX11_lightestCut_94 (by decide) ?_
          exact ih σ v2 v3 v4_14 _ _ _ hI (lv_sub hl [1, 2, 3, 4, 0] rfl) h
        · replace h := ite_neg c_13 h; clear c_13
          refine lv_aload_n Γ.1.1 Γ.1.2.1 dX11_lightestCut_68 rfl (lv_at hl 0 rfl) ?_
          refine get_X11_net Γ hI gw_106 dX11_lightestCut_69 ?_
          refine lv_iload Γ.1.1 Γ.1.2.1 dX11_lightestCut_72 (lv_at hl 4 rfl) ?_
          obtain ⟨r_15, hr_15, h⟩ := ob_some h
          refine g_ci Γ hI (g_runV (As := [.int v4]) Γ hI (S_X3_weightOfSet l X σ 8 sh_8 v4 r_15 hr_15) mf_X3_weightOfSet (recv_X3 sh_8 Γ hI) gw_119 rfl rfl ⟨Nat.le_of_ble_eq_true rfl, Nat.le_of_ble_eq_true rfl⟩ rfl hl.1 rfl (Nat.le_of_ble_eq_true rfl) dX11_lightestCut_74 ⟨Nat.zero_le _, Nat.zero_le _⟩) (fun H locs hI => ?_)
          clear hr_15
          refine lv_istore (lv' := [(5, .int r_15), (0, .ref (X.2.1 + 0)), (1, .ref (X.2.1 + 49)), (2, .int v2), (3, .int v3), (4, .int v4)]) Γ.1.1 Γ.1.2.1 dX11_lightestCut_77 hl (by decide) rfl (fun ls hl => ?_)
          refine lv_iload Γ.1.1 Γ.1.2.1 dX11_lightestCut_79 (lv_at hl 0 rfl) ?_
          refine lv_iload_n Γ.1.1 Γ.1.2.1 dX11_lightestCut_81 rfl (lv_at hl 4 rfl) ?_
          refine lv_icmp_ge (tgt := 91) Γ.1.1 Γ.1.2.1 dX11_lightestCut_82 (by decide) (fun c_17 => ?_) (fun c_17 => ?_)
          · replace h := ite_pos c_17 h; clear c_17
            obtain ⟨v4_18, e_v4_18, h⟩ := nm_some h
            refine lv_iinc (v := v4_18) (lv' := [(4, .int v4_18), (5, .int r_15), (0, .ref (X.2.1 + 0)), (1, .ref (X.2.1 + 49)), (2, .int v2), (3, .int v3)]) Γ.1.1 Γ.1.2.1 dX11_lightestCut_91 hl (k := 5) rfl (by rw [e_v4_18]; rfl) (by decide) rfl (fun ls hl => ?_)
            clear e_v4_18
            refine lv_goto (tgt := 25) Γ.1.1 Γ.1.2.1 dX11_lightestCut_94 (by decide) ?_
            exact ih σ v2 v3 v4_18 _ _ _ hI (lv_sub hl [2, 3, 4, 5, 0] rfl) h
          · replace h := ite_neg c_17 h; clear c_17
            refine lv_iload Γ.1.1 Γ.1.2.1 dX11_lightestCut_85 (lv_at hl 0 rfl) ?_
            refine lv_istore_n (lv' := [(3, .int r_15), (5, .int r_15), (0, .ref (X.2.1 + 0)), (1, .ref (X.2.1 + 49)), (2, .int v2), (4, .int v4)]) Γ.1.1 Γ.1.2.1 dX11_lightestCut_87 rfl hl (by decide) rfl (fun ls hl => ?_)
            refine lv_iload Γ.1.1 Γ.1.2.1 dX11_lightestCut_88 (lv_at hl 5 rfl) ?_
            refine lv_istore_n (lv' := [(2, .int v4), (3, .int r_15), (5, .int r_15), (0, .ref (X.2.1 + 0)), (1, .ref (X.2.1 + 49)), (4, .int v4)]) Γ.1.1 Γ.1.2.1 dX11_lightestCut_90 rfl hl (by decide) rfl (fun ls hl => ?_)
            obtain ⟨v4_19, e_v4_19, h⟩ := nm_some h
            refine lv_iinc (v := v4_19) (lv' := [(4, .int v4_19), (2, .int v4), (3, .int r_15), (5, .int r_15), (0, .ref (X.2.1 + 0)), (1, .ref (X.2.1 + 49))]) Γ.1.1 Γ.1.2.1 dX11_lightestCut_91 hl (k := 5) rfl (by rw [e_v4_19]; rfl) (by decide) rfl (fun ls hl => ?_)
            clear e_v4_19
            refine lv_goto (tgt := 25) Γ.1.1 Γ.1.2.1 dX11_lightestCut_94 (by decide) ?_
            exact ih σ v4 r_15 v4_19 _ _ _ hI (lv_sub hl [4, 5, 1, 2, 0] rfl) h
set_option maxRecDepth 20000 in
set_option maxHeartbeats 4000000 in
theorem S_X11_lightestCut (l : Launch) (X : GX) (σ : GM) (σr : GM) (x : Int32) (h : f_X11_lightestCut σ = some (σr, x)) : gMet l yX11_lightestCut cX11_lightestCut 6 (some .int) ({ frames := 5, cells := 0, slots := 0, locals := 110 } : Room) X σ [.ref (X.2.1 + 0)] (gQi X σr x) := by
  unfold f_X11_lightestCut at h
  refine gMet_of (lv := [(0, .ref (X.2.1 + 0))]) (by decide) rfl (Nat.le_of_ble_eq_true rfl) rfl (fun p e s m below meth c H ls Γ hI hl => ?_)
  refine lv_aload_n Γ.1.1 Γ.1.2.1 dX11_lightestCut_0 rfl (lv_at hl 0 rfl) ?_
  obtain ⟨σ_2, hr_1, h⟩ := ob_some h
  refine g_cr Γ hI (g_runV (As := []) Γ hI (S_X11_ringsNow l X σ σ_2 hr_1) mf_X11_ringsNow (recv_X11 Γ hI) gw_138 rfl rfl ⟨Nat.le_of_ble_eq_true rfl, Nat.le_of_ble_eq_true rfl⟩ rfl hl.1 rfl (Nat.le_of_ble_eq_true rfl) dX11_lightestCut_1 ⟨Nat.zero_le _, Nat.zero_le _⟩) (fun H locs hI => ?_)
  clear hr_1
  refine lv_astore_n (lv' := [(1, .ref (X.2.1 + 49)), (0, .ref (X.2.1 + 0))]) Γ.1.1 Γ.1.2.1 dX11_lightestCut_4 rfl hl (by decide) rfl (fun ls hl => ?_)
  refine lv_aload_n Γ.1.1 Γ.1.2.1 dX11_lightestCut_5 rfl (lv_at hl 1 rfl) ?_
  refine get_X11_net Γ hI gw_106 dX11_lightestCut_6 ?_
  refine get_X3_there sh_8 Γ hI gw_115 dX11_lightestCut_9 ?_
  refine lv_topi (fun v2_3 e_v2_3 => ?_)
  replace h := nm_at e_v2_3 h; clear e_v2_3
  refine lv_istore_n (lv' := [(2, .int v2_3), (1, .ref (X.2.1 + 49)), (0, .ref (X.2.1 + 0))]) Γ.1.1 Γ.1.2.1 dX11_lightestCut_12 rfl hl (by decide) rfl (fun ls hl => ?_)
  refine lv_aload_n Γ.1.1 Γ.1.2.1 dX11_lightestCut_13 rfl (lv_at hl 2 rfl) ?_
  refine get_X11_net Γ hI gw_106 dX11_lightestCut_14 ?_
  refine lv_iload_n Γ.1.1 Γ.1.2.1 dX11_lightestCut_17 rfl (lv_at hl 0 rfl) ?_
  obtain ⟨r_4, hr_4, h⟩ := ob_some h
  refine g_ci Γ hI (g_runV (As := [.int v2_3]) Γ hI (S_X3_weightOfSet l X σ_2 8 sh_8 v2_3 r_4 hr_4) mf_X3_weightOfSet (recv_X3 sh_8 Γ hI) gw_119 rfl rfl ⟨Nat.le_of_ble_eq_true rfl, Nat.le_of_ble_eq_true rfl⟩ rfl hl.1 rfl (Nat.le_of_ble_eq_true rfl) dX11_lightestCut_18 ⟨Nat.zero_le _, Nat.zero_le _⟩) (fun H locs hI => ?_)
  clear hr_4
  refine lv_istore_n (lv' := [(3, .int r_4), (2, .int v2_3), (1, .ref (X.2.1 + 49)), (0, .ref (X.2.1 + 0))]) Γ.1.1 Γ.1.2.1 dX11_lightestCut_21 rfl hl (by decide) rfl (fun ls hl => ?_)
  refine lv_iconst (v := (0 : Int32)) Γ.1.1 Γ.1.2.1 dX11_lightestCut_22 (by decide) ?_
  refine lv_istore (lv' := [(4, .int (0 : Int32)), (3, .int r_4), (2, .int v2_3), (1, .ref (X.2.1 + 49)), (0, .ref (X.2.1 + 0))]) Γ.1.1 Γ.1.2.1 dX11_lightestCut_23 hl (by decide) rfl (fun ls hl => ?_)
  exact s_X11_lightestCut_L25 σr x Γ _ σ_2 v2_3 r_4 (0 : Int32) _ _ _ hI (lv_sub hl [4, 3, 2, 1, 0] rfl) h
set_option maxRecDepth 20000 in
set_option maxHeartbeats 4000000 in
theorem S_X11_lightest (l : Launch) (X : GX) (σ : GM) (v1 : Int32) (σr : GM) (x : Int32) (h : f_X11_lightest σ v1 = some (σr, x)) : gMet l yX11_lightest cX11_lightest 2 (some .int) ({ frames := 6, cells := 0, slots := 0, locals := 135 } : Room) X σ [.ref (X.2.1 + 0), .int v1] (gQi X σr x) := by
  unfold f_X11_lightest at h
  refine gMet_of (lv := [(0, .ref (X.2.1 + 0)), (1, .int v1)]) (by decide) rfl (Nat.le_of_ble_eq_true rfl) rfl (fun p e s m below meth c H ls Γ hI hl => ?_)
  refine lv_iload_n Γ.1.1 Γ.1.2.1 dX11_lightest_0 rfl (lv_at hl 1 rfl) ?_
  refine lv_if_lt (tgt := 9) Γ.1.1 Γ.1.2.1 dX11_lightest_1 (by decide) (fun c_1 => ?_) (fun c_1 => ?_)
  · replace h := ite_pos c_1 h; clear c_1
    refine lv_iconst (v := (-1 : Int32)) Γ.1.1 Γ.1.2.1 dX11_lightest_9 (by decide) ?_
    refine lv_goto (tgt := 22) Γ.1.1 Γ.1.2.1 dX11_lightest_10 (by decide) ?_
    exact g_iret Γ hI dX11_lightest_22 (Prod.mk.inj (Option.some.inj h)).1 (Prod.mk.inj (Option.some.inj h)).2
  · replace h := ite_neg c_1 h; clear c_1
    refine lv_iload_n Γ.1.1 Γ.1.2.1 dX11_lightest_4 rfl (lv_at hl 1 rfl) ?_
    refine lv_iconst (v := (2 : Int32)) Γ.1.1 Γ.1.2.1 dX11_lightest_5 (by decide) ?_
    refine lv_icmp_le (tgt := 13) Γ.1.1 Γ.1.2.1 dX11_lightest_6 (by decide) (fun c_2 => ?_) (fun c_2 => ?_)
    · replace h := ite_pos c_2 h; clear c_2
      refine lv_aload_n Γ.1.1 Γ.1.2.1 dX11_lightest_13 rfl (lv_at hl 0 rfl) ?_
      refine lv_aload_n Γ.1.1 Γ.1.2.1 dX11_lightest_14 rfl (lv_at hl 0 rfl) ?_
      obtain ⟨σ_4, r_3, hr_3, h⟩ := ob2_some h
      refine g_ci Γ hI (g_runV (As := []) Γ hI (S_X11_lightestCut l X σ σ_4 r_3 hr_3) mf_X11_lightestCut (recv_X11 Γ hI) gw_143 rfl rfl ⟨Nat.le_of_ble_eq_true rfl, Nat.le_of_ble_eq_true rfl⟩ rfl hl.1 rfl (Nat.le_of_ble_eq_true rfl) dX11_lightest_15 ⟨Nat.zero_le _, Nat.zero_le _⟩) (fun H locs hI => ?_)
      clear hr_3
      refine lv_iload_n Γ.1.1 Γ.1.2.1 dX11_lightest_18 rfl (lv_at hl 1 rfl) ?_
      obtain ⟨r_5, hr_5, h⟩ := ob_some h
      refine g_ci Γ hI (g_runV (As := [.int r_3, .int v1]) Γ hI (S_X11_tellSet l X σ_4 r_3 v1 r_5 hr_5) mf_X11_tellSet (recv_X11 Γ hI) gw_142 rfl rfl ⟨Nat.le_of_ble_eq_true rfl, Nat.le_of_ble_eq_true rfl⟩ rfl hl.1 rfl (Nat.le_of_ble_eq_true rfl) dX11_lightest_19 ⟨Nat.zero_le _, Nat.zero_le _⟩) (fun H locs hI => ?_)
      clear hr_5
      exact g_iret Γ hI dX11_lightest_22 (Prod.mk.inj (Option.some.inj h)).1 (Prod.mk.inj (Option.some.inj h)).2
    · replace h := ite_neg c_2 h; clear c_2
      refine lv_iconst (v := (-1 : Int32)) Γ.1.1 Γ.1.2.1 dX11_lightest_9 (by decide) ?_
      refine lv_goto (tgt := 22) Γ.1.1 Γ.1.2.1 dX11_lightest_10 (by decide) ?_
      exact g_iret Γ hI dX11_lightest_22 (Prod.mk.inj (Option.some.inj h)).1 (Prod.mk.inj (Option.some.inj h)).2
set_option maxRecDepth 20000 in
set_option maxHeartbeats 4000000 in
theorem s_X11_those_L125 {p : Program} {l : Launch} {e : Env} {s : State} {m : MethodId} {args : Array Value} {below : List Frame} {meth : Method} {c : Code} {X : GX} (σr : GM) (x : Int32) (Γ : gC X p m meth c cX11_those 8 s args RX11 (some .int)) :
    ∀ (σ : GM) (v1 : Int32) (v4 : Int32) (v5 : Int32) (v6 : Int32) (H : Heap) (locs : List Loc) (ls : Array Slot), gI X σ s H locs → lv_has ls 8 [(1, .int v1), (4, .int v4), (5, .int v5), (6, .int v6)] → f_X11_those_L125 σ v1 v4 v5 v6 = some (σr, x) →
    W p l e ({ frames := 5, cells := 0, slots := 0, locals := 110 } : Room) s m args below meth c H locs 0 0 (MQ below (gQi X σr x) args s 0 0 (gA X)) (F0 m 125 ls []) := by
  intro σ v1 v4 v5 v6 H locs ls hI hl h
  unfold f_X11_those_L125 at h
  refine lv_iload_n Γ.1.1 Γ.1.2.1 dX11_those_125 rfl (lv_at hl 0 rfl) ?_
  refine lv_if_ne (tgt := 134) Γ.1.1 Γ.1.2.1 dX11_those_126 (by decide) (fun c_11 => ?_) (fun c_11 => ?_)
  · replace h := ite_neg c_11 h; clear c_11
    refine lv_iload_n Γ.1.1 Γ.1.2.1 dX11_those_134 rfl (lv_at hl 0 rfl) ?_
    refine lv_iconst (v := (1 : Int32)) Γ.1.1 Γ.1.2.1 dX11_those_135 (by decide) ?_
    refine lv_icmp_ne (tgt := 144) Γ.1.1 Γ.1.2.1 dX11_those_136 (by decide) (fun c_12 => ?_) (fun c_12 => ?_)
    · replace h := ite_neg c_12 h; clear c_12
      refine lv_iload Γ.1.1 Γ.1.2.1 dX11_those_144 (lv_at hl 3 rfl) ?_
      exact g_iret Γ hI dX11_those_146 (Prod.mk.inj (Option.some.inj h)).1 (Prod.mk.inj (Option.some.inj h)).2
    · replace h := ite_pos c_12 h; clear c_12
      refine lv_iload Γ.1.1 Γ.1.2.1 dX11_those_139 (lv_at hl 2 rfl) ?_
      refine lv_goto (tgt := 146) Γ.1.1 Γ.1.2.1 dX11_those_141 (by decide) ?_
      exact g_iret Γ hI dX11_those_146 (Prod.mk.inj (Option.some.inj h)).1 (Prod.mk.inj (Option.some.inj h)).2
  · replace h := ite_pos c_11 h; clear c_11
    refine lv_iload Γ.1.1 Γ.1.2.1 dX11_those_129 (lv_at hl 1 rfl) ?_
    refine lv_goto (tgt := 146) Γ.1.1 Γ.1.2.1 dX11_those_131 (by decide) ?_
    exact g_iret Γ hI dX11_those_146 (Prod.mk.inj (Option.some.inj h)).1 (Prod.mk.inj (Option.some.inj h)).2
set_option maxRecDepth 20000 in
set_option maxHeartbeats 4000000 in
theorem s_X11_those_L50 {p : Program} {l : Launch} {e : Env} {s : State} {m : MethodId} {args : Array Value} {below : List Frame} {meth : Method} {c : Code} {X : GX} (σr : GM) (x : Int32) (Γ : gC X p m meth c cX11_those 8 s args RX11 (some .int)) (v1 : Int32) (v3 : Int32) :
    ∀ (k : Nat) (σ : GM) (v4 : Int32) (v5 : Int32) (v6 : Int32) (v7 : Int32) (H : Heap) (locs : List Loc) (ls : Array Slot), gI X σ s H locs → lv_has ls 8 [(0, .ref (X.2.1 + 0)), (1, .int v1), (2, .ref (X.2.1 + 49)), (3, .int v3), (4, .int v4), (5, .int v5), (6, .int v6), (7, .int v7)] → f_X11_those_L50 v1 v3 k σ v4 v5 v6 v7 = some (σr, x) →
    W p l e ({ frames := 5, cells := 0, slots := 0, locals := 110 } : Room) s m args below meth c H locs 0 0 (MQ below (gQi X σr x) args s 0 0 (gA X)) (F0 m 50 ls []) := by
  intro k
  induction k with
  | zero =>
    intro σ v4 v5 v6 v7 H locs ls hI hl h
    exact absurd h (by simp [f_X11_those_L50])
  | succ k ih =>
    intro σ v4 v5 v6 v7 H locs ls hI hl h
    unfold f_X11_those_L50 at h
    refine lv_iload Γ.1.1 Γ.1.2.1 dX11_those_50 (lv_at hl 7 rfl) ?_
    refine lv_aload_n Γ.1.1 Γ.1.2.1 dX11_those_52 rfl (lv_at hl 0 rfl) ?_
    refine get_X11_net Γ hI gw_106 dX11_those_53 ?_
    refine get_X3_there sh_8 Γ hI gw_115 dX11_those_56 ?_
    refine lv_icmp_gt (tgt := 125) Γ.1.1 Γ.1.2.1 dX11_those_59 (by decide) (fun c_10 => ?_) (fun c_10 => ?_)
    · replace h := ite_pos c_10 h; clear c_10
      exact s_X11_those_L125 σr x Γ σ v1 v4 v5 v6 _ _ _ hI (lv_sub hl [1, 4, 5, 6] rfl) h
    · replace h := ite_neg c_10 h; clear c_10
      refine lv_aload_n Γ.1.1 Γ.1.2.1 dX11_those_62 rfl (lv_at hl 0 rfl) ?_
      refine get_X11_net Γ hI gw_106 dX11_those_63 ?_
      refine lv_iload Γ.1.1 Γ.1.2.1 dX11_those_66 (lv_at hl 7 rfl) ?_
      obtain ⟨r_13, hr_13, h⟩ := ob_some h
      refine g_ci Γ hI (g_runV (As := [.int v7]) Γ hI (S_X3_areThere l X σ 8 sh_8 v7 r_13 hr_13) mf_X3_areThere (recv_X3 sh_8 Γ hI) gw_137 rfl rfl ⟨Nat.le_of_ble_eq_true rfl, Nat.le_of_ble_eq_true rfl⟩ rfl hl.1 rfl (Nat.le_of_ble_eq_true rfl) dX11_those_68 ⟨Nat.zero_le _, Nat.zero_le _⟩) (fun H locs hI => ?_)
      clear hr_13
      refine lv_if_eq (tgt := 119) Γ.1.1 Γ.1.2.1 dX11_those_71 (by decide) (fun c_15 => ?_) (fun c_15 => ?_)
      · replace h := ite_pos c_15 h; clear c_15
        obtain ⟨v7_16, e_v7_16, h⟩ := nm_some h
        refine lv_iinc (v := v7_16) (lv' := [(7, .int v7_16), (0, .ref (X.2.1 + 0)), (1, .int v1), (2, .ref (X.2.1 + 49)), (3, .int v3), (4, .int v4), (5, .int v5), (6, .int v6)]) Γ.1.1 Γ.1.2.1 dX11_those_119 hl (k := 7) rfl (by rw [e_v7_16]; rfl) (by decide) rfl (fun ls hl => ?_)
        clear e_v7_16
        refine lv_goto (tgt := 50) Γ.1.1 Γ.1.2.1 dX11_those_122 (by decide) ?_
        exact ih σ v4 v5 v6 v7_16 _ _ _ hI (lv_sub hl [1, 2, 3, 4, 5, 6, 7, 0] rfl) h
      · replace h := ite_neg c_15 h; clear c_15
        refine lv_iload Γ.1.1 Γ.1.2.1 dX11_those_74 (lv_at hl 7 rfl) ?_
        obtain ⟨r_17, hr_17, h⟩ := ob_some h
        refine g_ci Γ hI (g_runS (As := [.int v7]) Γ hI (S_J6_bitCount_0f7a4 l X σ v7 r_17 hr_17) mf_J6_bitCount_0f7a4 gw_140 rfl rfl ⟨Nat.le_of_ble_eq_true rfl, Nat.le_of_ble_eq_true rfl⟩ rfl hl.1 rfl (Nat.le_of_ble_eq_true rfl) dX11_those_76 ⟨Nat.zero_le _, Nat.zero_le _⟩) (fun H locs hI => ?_)
        clear hr_17
        refine lv_iload_n Γ.1.1 Γ.1.2.1 dX11_those_79 rfl (lv_at hl 3 rfl) ?_
        refine lv_icmp_ne (tgt := 119) Γ.1.1 Γ.1.2.1 dX11_those_80 (by decide) (fun c_19 => ?_) (fun c_19 => ?_)
        · replace h := ite_neg c_19 h; clear c_19
          obtain ⟨v7_20, e_v7_20, h⟩ := nm_some h
          refine lv_iinc (v := v7_20) (lv' := [(7, .int v7_20), (0, .ref (X.2.1 + 0)), (1, .int v1), (2, .ref (X.2.1 + 49)), (3, .int v3), (4, .int v4), (5, .int v5), (6, .int v6)]) Γ.1.1 Γ.1.2.1 dX11_those_119 hl (k := 7) rfl (by rw [e_v7_20]; rfl) (by decide) rfl (fun ls hl => ?_)
          clear e_v7_20
          refine lv_goto (tgt := 50) Γ.1.1 Γ.1.2.1 dX11_those_122 (by decide) ?_
          exact ih σ v4 v5 v6 v7_20 _ _ _ hI (lv_sub hl [1, 2, 3, 4, 5, 6, 7, 0] rfl) h
        · replace h := ite_pos c_19 h; clear c_19
          refine lv_aload_n Γ.1.1 Γ.1.2.1 dX11_those_83 rfl (lv_at hl 2 rfl) ?_
          refine lv_aload_n Γ.1.1 Γ.1.2.1 dX11_those_84 rfl (lv_at hl 0 rfl) ?_
          refine get_X11_net Γ hI gw_106 dX11_those_85 ?_
          refine get_X3_there sh_8 Γ hI gw_115 dX11_those_88 ?_
          refine lv_iload Γ.1.1 Γ.1.2.1 dX11_those_91 (lv_at hl 7 rfl) ?_
          refine lv_iconst (v := (-1 : Int32)) Γ.1.1 Γ.1.2.1 dX11_those_93 (by decide) ?_
          refine lv_ixor Γ.1.1 Γ.1.2.1 dX11_those_94 ?_
          refine lv_iand Γ.1.1 Γ.1.2.1 dX11_those_95 ?_
          obtain ⟨r_21, hr_21, h⟩ := ob_some h
          refine g_ci Γ hI (g_runV (As := [.int ((σ.1 8 3) &&& (v7 ^^^ (-1 : Int32)))]) Γ hI (S_X8_isFree l X σ ((σ.1 8 3) &&& (v7 ^^^ (-1 : Int32))) r_21 hr_21) mf_X8_isFree (recv_X8 Γ hI) gw_139 rfl rfl ⟨Nat.le_of_ble_eq_true rfl, Nat.le_of_ble_eq_true rfl⟩ rfl hl.1 rfl (Nat.le_of_ble_eq_true rfl) dX11_those_96 ⟨Nat.zero_le _, Nat.zero_le _⟩) (fun H locs hI => ?_)
          clear hr_21
          refine lv_if_eq (tgt := 119) Γ.1.1 Γ.1.2.1 dX11_those_99 (by decide) (fun c_23 => ?_) (fun c_23 => ?_)
          · replace h := ite_pos c_23 h; clear c_23
            obtain ⟨v7_24, e_v7_24, h⟩ := nm_some h
            refine lv_iinc (v := v7_24) (lv' := [(7, .int v7_24), (0, .ref (X.2.1 + 0)), (1, .int v1), (2, .ref (X.2.1 + 49)), (3, .int v3), (4, .int v4), (5, .int v5), (6, .int v6)]) Γ.1.1 Γ.1.2.1 dX11_those_119 hl (k := 7) rfl (by rw [e_v7_24]; rfl) (by decide) rfl (fun ls hl => ?_)
            clear e_v7_24
            refine lv_goto (tgt := 50) Γ.1.1 Γ.1.2.1 dX11_those_122 (by decide) ?_
            exact ih σ v4 v5 v6 v7_24 _ _ _ hI (lv_sub hl [1, 2, 3, 4, 5, 6, 7, 0] rfl) h
          · replace h := ite_neg c_23 h; clear c_23
            obtain ⟨v4_25, e_v4_25, h⟩ := nm_some h
            refine lv_iinc (v := v4_25) (lv' := [(4, .int v4_25), (0, .ref (X.2.1 + 0)), (1, .int v1), (2, .ref (X.2.1 + 49)), (3, .int v3), (5, .int v5), (6, .int v6), (7, .int v7)]) Γ.1.1 Γ.1.2.1 dX11_those_102 hl (k := 4) rfl (by rw [e_v4_25]; rfl) (by decide) rfl (fun ls hl => ?_)
            clear e_v4_25
            refine lv_iload Γ.1.1 Γ.1.2.1 dX11_those_105 (lv_at hl 5 rfl) ?_
            refine lv_iload Γ.1.1 Γ.1.2.1 dX11_those_107 (lv_at hl 7 rfl) ?_
            refine lv_iand Γ.1.1 Γ.1.2.1 dX11_those_109 ?_
            refine lv_topi (fun v5_26 e_v5_26 => ?_)
            replace h := nm_at e_v5_26 h; clear e_v5_26
            refine lv_istore (lv' := [(5, .int v5_26), (4, .int v4_25), (0, .ref (X.2.1 + 0)), (1, .int v1), (2, .ref (X.2.1 + 49)), (3, .int v3), (6, .int v6), (7, .int v7)]) Γ.1.1 Γ.1.2.1 dX11_those_110 hl (by decide) rfl (fun ls hl => ?_)
            refine lv_iload Γ.1.1 Γ.1.2.1 dX11_those_112 (lv_at hl 6 rfl) ?_
            refine lv_iload Γ.1.1 Γ.1.2.1 dX11_those_114 (lv_at hl 7 rfl) ?_
            refine lv_ior Γ.1.1 Γ.1.2.1 dX11_those_116 ?_
            refine lv_topi (fun v6_27 e_v6_27 => ?_)
            replace h := nm_at e_v6_27 h; clear e_v6_27
            refine lv_istore (lv' := [(6, .int v6_27), (5, .int v5_26), (4, .int v4_25), (0, .ref (X.2.1 + 0)), (1, .int v1), (2, .ref (X.2.1 + 49)), (3, .int v3), (7, .int v7)]) Γ.1.1 Γ.1.2.1 dX11_those_117 hl (by decide) rfl (fun ls hl => ?_)
            obtain ⟨v7_28, e_v7_28, h⟩ := nm_some h
            refine lv_iinc (v := v7_28) (lv' := [(7, .int v7_28), (6, .int v6_27), (5, .int v5_26), (4, .int v4_25), (0, .ref (X.2.1 + 0)), (1, .int v1), (2, .ref (X.2.1 + 49)), (3, .int v3)]) Γ.1.1 Γ.1.2.1 dX11_those_119 hl (k := 7) rfl (by rw [e_v7_28]; rfl) (by decide) rfl (fun ls hl => ?_)
            clear e_v7_28
            refine lv_goto (tgt := 50) Γ.1.1 Γ.1.2.1 dX11_those_122 (by decide) ?_
            exact ih σ v4_25 v5_26 v6_27 v7_28 _ _ _ hI (lv_sub hl [4, 5, 6, 7, 3, 2, 1, 0] rfl) h
set_option maxRecDepth 20000 in
set_option maxHeartbeats 4000000 in
theorem S_X11_those (l : Launch) (X : GX) (σ : GM) (v1 : Int32) (σr : GM) (x : Int32) (h : f_X11_those σ v1 = some (σr, x)) : gMet l yX11_those cX11_those 8 (some .int) ({ frames := 5, cells := 0, slots := 0, locals := 110 } : Room) X σ [.ref (X.2.1 + 0), .int v1] (gQi X σr x) := by
  unfold f_X11_those at h
  refine gMet_of (lv := [(0, .ref (X.2.1 + 0)), (1, .int v1)]) (by decide) rfl (Nat.le_of_ble_eq_true rfl) rfl (fun p e s m below meth c H ls Γ hI hl => ?_)
  refine lv_iload_n Γ.1.1 Γ.1.2.1 dX11_those_0 rfl (lv_at hl 1 rfl) ?_
  refine lv_if_lt (tgt := 9) Γ.1.1 Γ.1.2.1 dX11_those_1 (by decide) (fun c_1 => ?_) (fun c_1 => ?_)
  · replace h := ite_pos c_1 h; clear c_1
    refine lv_iconst (v := (-1 : Int32)) Γ.1.1 Γ.1.2.1 dX11_those_9 (by decide) ?_
    exact g_iret Γ hI dX11_those_10 (Prod.mk.inj (Option.some.inj h)).1 (Prod.mk.inj (Option.some.inj h)).2
  · replace h := ite_neg c_1 h; clear c_1
    refine lv_iload_n Γ.1.1 Γ.1.2.1 dX11_those_4 rfl (lv_at hl 1 rfl) ?_
    refine lv_iconst (v := (2 : Int32)) Γ.1.1 Γ.1.2.1 dX11_those_5 (by decide) ?_
    refine lv_icmp_le (tgt := 11) Γ.1.1 Γ.1.2.1 dX11_those_6 (by decide) (fun c_2 => ?_) (fun c_2 => ?_)
    · replace h := ite_pos c_2 h; clear c_2
      refine lv_aload_n Γ.1.1 Γ.1.2.1 dX11_those_11 rfl (lv_at hl 0 rfl) ?_
      obtain ⟨σ_4, hr_3, h⟩ := ob_some h
      refine g_cr Γ hI (g_runV (As := []) Γ hI (S_X11_ringsNow l X σ σ_4 hr_3) mf_X11_ringsNow (recv_X11 Γ hI) gw_138 rfl rfl ⟨Nat.le_of_ble_eq_true rfl, Nat.le_of_ble_eq_true rfl⟩ rfl hl.1 rfl (Nat.le_of_ble_eq_true rfl) dX11_those_12 ⟨Nat.zero_le _, Nat.zero_le _⟩) (fun H locs hI => ?_)
      clear hr_3
      refine lv_astore_n (lv' := [(2, .ref (X.2.1 + 49)), (0, .ref (X.2.1 + 0)), (1, .int v1)]) Γ.1.1 Γ.1.2.1 dX11_those_15 rfl hl (by decide) rfl (fun ls hl => ?_)
      refine lv_aload_n Γ.1.1 Γ.1.2.1 dX11_those_16 rfl (lv_at hl 0 rfl) ?_
      refine lv_aload_n Γ.1.1 Γ.1.2.1 dX11_those_17 rfl (lv_at hl 1 rfl) ?_
      refine get_X11_net Γ hI gw_106 dX11_those_18 ?_
      refine get_X3_there sh_8 Γ hI gw_115 dX11_those_21 ?_
      refine lv_iconst (v := (0 : Int32)) Γ.1.1 Γ.1.2.1 dX11_those_24 (by decide) ?_
      obtain ⟨r_5, hr_5, h⟩ := ob_some h
      refine g_ci Γ hI (g_runV (As := [.int (σ_4.1 8 3), .int (0 : Int32)]) Γ hI (S_X8_fewestOf l X σ_4 (σ_4.1 8 3) (0 : Int32) r_5 hr_5) mf_X8_fewestOf (recv_X8 Γ hI) gw_141 rfl rfl ⟨Nat.le_of_ble_eq_true rfl, Nat.le_of_ble_eq_true rfl⟩ rfl hl.1 rfl (Nat.le_of_ble_eq_true rfl) dX11_those_25 ⟨Nat.zero_le _, Nat.zero_le _⟩) (fun H locs hI => ?_)
      clear hr_5
      obtain ⟨r_7, hr_7, h⟩ := ob_some h
      refine g_ci Γ hI (g_runS (As := [.int r_5]) Γ hI (S_J6_bitCount_0f7a4 l X σ_4 r_5 r_7 hr_7) mf_J6_bitCount_0f7a4 gw_140 rfl rfl ⟨Nat.le_of_ble_eq_true rfl, Nat.le_of_ble_eq_true rfl⟩ rfl hl.1 rfl (Nat.le_of_ble_eq_true rfl) dX11_those_28 ⟨Nat.zero_le _, Nat.zero_le _⟩) (fun H locs hI => ?_)
      clear hr_7
      refine lv_istore_n (lv' := [(3, .int r_7), (2, .ref (X.2.1 + 49)), (0, .ref (X.2.1 + 0)), (1, .int v1)]) Γ.1.1 Γ.1.2.1 dX11_those_31 rfl hl (by decide) rfl (fun ls hl => ?_)
      refine lv_iconst (v := (0 : Int32)) Γ.1.1 Γ.1.2.1 dX11_those_32 (by decide) ?_
      refine lv_istore (lv' := [(4, .int (0 : Int32)), (3, .int r_7), (2, .ref (X.2.1 + 49)), (0, .ref (X.2.1 + 0)), (1, .int v1)]) Γ.1.1 Γ.1.2.1 dX11_those_33 hl (by decide) rfl (fun ls hl => ?_)
      refine lv_aload_n Γ.1.1 Γ.1.2.1 dX11_those_35 rfl (lv_at hl 3 rfl) ?_
      refine get_X11_net Γ hI gw_106 dX11_those_36 ?_
      refine get_X3_there sh_8 Γ hI gw_115 dX11_those_39 ?_
      refine lv_topi (fun v5_9 e_v5_9 => ?_)
      replace h := nm_at e_v5_9 h; clear e_v5_9
      refine lv_istore (lv' := [(5, .int v5_9), (4, .int (0 : Int32)), (3, .int r_7), (2, .ref (X.2.1 + 49)), (0, .ref (X.2.1 + 0)), (1, .int v1)]) Γ.1.1 Γ.1.2.1 dX11_those_42 hl (by decide) rfl (fun ls hl => ?_)
      refine lv_iconst (v := (0 : Int32)) Γ.1.1 Γ.1.2.1 dX11_those_44 (by decide) ?_
      refine lv_istore (lv' := [(6, .int (0 : Int32)), (5, .int v5_9), (4, .int (0 : Int32)), (3, .int r_7), (2, .ref (X.2.1 + 49)), (0, .ref (X.2.1 + 0)), (1, .int v1)]) Γ.1.1 Γ.1.2.1 dX11_those_45 hl (by decide) rfl (fun ls hl => ?_)
      refine lv_iconst (v := (0 : Int32)) Γ.1.1 Γ.1.2.1 dX11_those_47 (by decide) ?_
      refine lv_istore (lv' := [(7, .int (0 : Int32)), (6, .int (0 : Int32)), (5, .int v5_9), (4, .int (0 : Int32)), (3, .int r_7), (2, .ref (X.2.1 + 49)), (0, .ref (X.2.1 + 0)), (1, .int v1)]) Γ.1.1 Γ.1.2.1 dX11_those_48 hl (by decide) rfl (fun ls hl => ?_)
      exact s_X11_those_L50 σr x Γ v1 r_7 _ σ_4 (0 : Int32) v5_9 (0 : Int32) (0 : Int32) _ _ _ hI (lv_sub hl [6, 7, 5, 4, 3, 2, 1, 0] rfl) h
    · replace h := ite_neg c_2 h; clear c_2
      refine lv_iconst (v := (-1 : Int32)) Γ.1.1 Γ.1.2.1 dX11_those_9 (by decide) ?_
      exact g_iret Γ hI dX11_those_10 (Prod.mk.inj (Option.some.inj h)).1 (Prod.mk.inj (Option.some.inj h)).2
set_option maxRecDepth 20000 in
set_option maxHeartbeats 4000000 in
theorem S_X11_sparing (l : Launch) (X : GX) (σ : GM) (v1 : Int32) (σr : GM) (x : Int32) (h : f_X11_sparing σ v1 = some (σr, x)) : gMet l yX11_sparing cX11_sparing 2 (some .int) ({ frames := 5, cells := 0, slots := 0, locals := 110 } : Room) X σ [.ref (X.2.1 + 0), .int v1] (gQi X σr x) := by
  unfold f_X11_sparing at h
  refine gMet_of (lv := [(0, .ref (X.2.1 + 0)), (1, .int v1)]) (by decide) rfl (Nat.le_of_ble_eq_true rfl) rfl (fun p e s m below meth c H ls Γ hI hl => ?_)
  refine lv_aload_n Γ.1.1 Γ.1.2.1 dX11_sparing_0 rfl (lv_at hl 0 rfl) ?_
  refine get_X11_net Γ hI gw_106 dX11_sparing_1 ?_
  refine lv_iload_n Γ.1.1 Γ.1.2.1 dX11_sparing_4 rfl (lv_at hl 1 rfl) ?_
  obtain ⟨r_1, hr_1, h⟩ := ob_some h
  refine g_ci Γ hI (g_runV (As := [.int v1]) Γ hI (S_X3_areThere l X σ 8 sh_8 v1 r_1 hr_1) mf_X3_areThere (recv_X3 sh_8 Γ hI) gw_137 rfl rfl ⟨Nat.le_of_ble_eq_true rfl, Nat.le_of_ble_eq_true rfl⟩ rfl hl.1 rfl (Nat.le_of_ble_eq_true rfl) dX11_sparing_5 ⟨Nat.zero_le _, Nat.zero_le _⟩) (fun H locs hI => ?_)
  clear hr_1
  refine lv_if_eq (tgt := 29) Γ.1.1 Γ.1.2.1 dX11_sparing_8 (by decide) (fun c_3 => ?_) (fun c_3 => ?_)
  · replace h := ite_pos c_3 h; clear c_3
    refine lv_iconst (v := (-1 : Int32)) Γ.1.1 Γ.1.2.1 dX11_sparing_29 (by decide) ?_
    exact g_iret Γ hI dX11_sparing_30 (Prod.mk.inj (Option.some.inj h)).1 (Prod.mk.inj (Option.some.inj h)).2
  · replace h := ite_neg c_3 h; clear c_3
    refine lv_aload_n Γ.1.1 Γ.1.2.1 dX11_sparing_11 rfl (lv_at hl 0 rfl) ?_
    obtain ⟨σ_5, hr_4, h⟩ := ob_some h
    refine g_cr Γ hI (g_runV (As := []) Γ hI (S_X11_ringsNow l X σ σ_5 hr_4) mf_X11_ringsNow (recv_X11 Γ hI) gw_138 rfl rfl ⟨Nat.le_of_ble_eq_true rfl, Nat.le_of_ble_eq_true rfl⟩ rfl hl.1 rfl (Nat.le_of_ble_eq_true rfl) dX11_sparing_12 ⟨Nat.zero_le _, Nat.zero_le _⟩) (fun H locs hI => ?_)
    clear hr_4
    refine lv_aload_n Γ.1.1 Γ.1.2.1 dX11_sparing_15 rfl (lv_at hl 0 rfl) ?_
    refine get_X11_net Γ hI gw_106 dX11_sparing_16 ?_
    refine get_X3_there sh_8 Γ hI gw_115 dX11_sparing_19 ?_
    refine lv_iload_n Γ.1.1 Γ.1.2.1 dX11_sparing_22 rfl (lv_at hl 1 rfl) ?_
    obtain ⟨r_6, hr_6, h⟩ := ob_some h
    refine g_ci Γ hI (g_runV (As := [.int (σ_5.1 8 3), .int v1]) Γ hI (S_X8_fewestOf l X σ_5 (σ_5.1 8 3) v1 r_6 hr_6) mf_X8_fewestOf (recv_X8 Γ hI) gw_141 rfl rfl ⟨Nat.le_of_ble_eq_true rfl, Nat.le_of_ble_eq_true rfl⟩ rfl hl.1 rfl (Nat.le_of_ble_eq_true rfl) dX11_sparing_23 ⟨Nat.zero_le _, Nat.zero_le _⟩) (fun H locs hI => ?_)
    clear hr_6
    refine lv_goto (tgt := 30) Γ.1.1 Γ.1.2.1 dX11_sparing_26 (by decide) ?_
    exact g_iret Γ hI dX11_sparing_30 (Prod.mk.inj (Option.some.inj h)).1 (Prod.mk.inj (Option.some.inj h)).2
set_option maxRecDepth 20000 in
set_option maxHeartbeats 4000000 in
theorem S_X11_upTo (l : Launch) (X : GX) (σ : GM) (v1 : Int32) (σr : GM) (x : Int32) (h : f_X11_upTo σ v1 = some (σr, x)) : gMet l yX11_upTo cX11_upTo 3 (some .int) ({ frames := 5, cells := 0, slots := 0, locals := 110 } : Room) X σ [.ref (X.2.1 + 0), .int v1] (gQi X σr x) := by
  unfold f_X11_upTo at h
  refine gMet_of (lv := [(0, .ref (X.2.1 + 0)), (1, .int v1)]) (by decide) rfl (Nat.le_of_ble_eq_true rfl) rfl (fun p e s m below meth c H ls Γ hI hl => ?_)
  refine lv_iload_n Γ.1.1 Γ.1.2.1 dX11_upTo_0 rfl (lv_at hl 1 rfl) ?_
  refine lv_if_lt (tgt := 21) Γ.1.1 Γ.1.2.1 dX11_upTo_1 (by decide) (fun c_1 => ?_) (fun c_1 => ?_)
  · replace h := ite_pos c_1 h; clear c_1
    refine lv_iconst (v := (-1 : Int32)) Γ.1.1 Γ.1.2.1 dX11_upTo_21 (by decide) ?_
    exact g_iret Γ hI dX11_upTo_22 (Prod.mk.inj (Option.some.inj h)).1 (Prod.mk.inj (Option.some.inj h)).2
  · replace h := ite_neg c_1 h; clear c_1
    refine lv_iload_n Γ.1.1 Γ.1.2.1 dX11_upTo_4 rfl (lv_at hl 1 rfl) ?_
    refine lv_aload_n Γ.1.1 Γ.1.2.1 dX11_upTo_5 rfl (lv_at hl 0 rfl) ?_
    refine get_X11_net Γ hI gw_106 dX11_upTo_6 ?_
    refine get_X3_told sh_8 Γ hI gw_114 dX11_upTo_9 ?_
    refine lv_icmp_ge (tgt := 21) Γ.1.1 Γ.1.2.1 dX11_upTo_12 (by decide) (fun c_2 => ?_) (fun c_2 => ?_)
    · replace h := ite_pos c_2 h; clear c_2
      refine lv_iconst (v := (-1 : Int32)) Γ.1.1 Γ.1.2.1 dX11_upTo_21 (by decide) ?_
      exact g_iret Γ hI dX11_upTo_22 (Prod.mk.inj (Option.some.inj h)).1 (Prod.mk.inj (Option.some.inj h)).2
    · replace h := ite_neg c_2 h; clear c_2
      refine lv_iload_n Γ.1.1 Γ.1.2.1 dX11_upTo_15 rfl (lv_at hl 1 rfl) ?_
      refine lv_bipush (v := (12 : Int32)) Γ.1.1 Γ.1.2.1 dX11_upTo_16 (by decide) ?_
      refine lv_icmp_lt (tgt := 23) Γ.1.1 Γ.1.2.1 dX11_upTo_18 (by decide) (fun c_3 => ?_) (fun c_3 => ?_)
      · replace h := ite_pos c_3 h; clear c_3
        refine lv_aload_n Γ.1.1 Γ.1.2.1 dX11_upTo_23 rfl (lv_at hl 0 rfl) ?_
        refine get_X11_net Γ hI gw_106 dX11_upTo_24 ?_
        refine get_X3_there sh_8 Γ hI gw_115 dX11_upTo_27 ?_
        refine lv_iconst (v := (2 : Int32)) Γ.1.1 Γ.1.2.1 dX11_upTo_30 (by decide) ?_
        refine lv_iload_n Γ.1.1 Γ.1.2.1 dX11_upTo_31 rfl (lv_at hl 1 rfl) ?_
        refine lv_ishl Γ.1.1 Γ.1.2.1 dX11_upTo_32 ?_
        refine lv_iconst (v := (1 : Int32)) Γ.1.1 Γ.1.2.1 dX11_upTo_33 (by decide) ?_
        refine lv_isub Γ.1.1 Γ.1.2.1 dX11_upTo_34 ?_
        refine lv_iand Γ.1.1 Γ.1.2.1 dX11_upTo_35 ?_
        refine lv_topi (fun v2_4 e_v2_4 => ?_)
        replace h := nm_at e_v2_4 h; clear e_v2_4
        refine lv_istore_n (lv' := [(2, .int v2_4), (0, .ref (X.2.1 + 0)), (1, .int v1)]) Γ.1.1 Γ.1.2.1 dX11_upTo_36 rfl hl (by decide) rfl (fun ls hl => ?_)
        refine lv_aload_n Γ.1.1 Γ.1.2.1 dX11_upTo_37 rfl (lv_at hl 1 rfl) ?_
        obtain ⟨σ_6, hr_5, h⟩ := ob_some h
        refine g_cr Γ hI (g_runV (As := []) Γ hI (S_X11_ringsNow l X σ σ_6 hr_5) mf_X11_ringsNow (recv_X11 Γ hI) gw_138 rfl rfl ⟨Nat.le_of_ble_eq_true rfl, Nat.le_of_ble_eq_true rfl⟩ rfl hl.1 rfl (Nat.le_of_ble_eq_true rfl) dX11_upTo_38 ⟨Nat.zero_le _, Nat.zero_le _⟩) (fun H locs hI => ?_)
        clear hr_5
        refine lv_iload_n Γ.1.1 Γ.1.2.1 dX11_upTo_41 rfl (lv_at hl 0 rfl) ?_
        refine lv_iconst (v := (0 : Int32)) Γ.1.1 Γ.1.2.1 dX11_upTo_42 (by decide) ?_
        obtain ⟨r_7, hr_7, h⟩ := ob_some h
        refine g_ci Γ hI (g_runV (As := [.int v2_4, .int (0 : Int32)]) Γ hI (S_X8_fewestOf l X σ_6 v2_4 (0 : Int32) r_7 hr_7) mf_X8_fewestOf (recv_X8 Γ hI) gw_141 rfl rfl ⟨Nat.le_of_ble_eq_true rfl, Nat.le_of_ble_eq_true rfl⟩ rfl hl.1 rfl (Nat.le_of_ble_eq_true rfl) dX11_upTo_43 ⟨Nat.zero_le _, Nat.zero_le _⟩) (fun H locs hI => ?_)
        clear hr_7
        obtain ⟨r_9, hr_9, h⟩ := ob_some h
        refine g_ci Γ hI (g_runS (As := [.int r_7]) Γ hI (S_J6_bitCount_0f7a4 l X σ_6 r_7 r_9 hr_9) mf_J6_bitCount_0f7a4 gw_140 rfl rfl ⟨Nat.le_of_ble_eq_true rfl, Nat.le_of_ble_eq_true rfl⟩ rfl hl.1 rfl (Nat.le_of_ble_eq_true rfl) dX11_upTo_46 ⟨Nat.zero_le _, Nat.zero_le _⟩) (fun H locs hI => ?_)
        clear hr_9
        exact g_iret Γ hI dX11_upTo_49 (Prod.mk.inj (Option.some.inj h)).1 (Prod.mk.inj (Option.some.inj h)).2
      · replace h := ite_neg c_3 h; clear c_3
        refine lv_iconst (v := (-1 : Int32)) Γ.1.1 Γ.1.2.1 dX11_upTo_21 (by decide) ?_
        exact g_iret Γ hI dX11_upTo_22 (Prod.mk.inj (Option.some.inj h)).1 (Prod.mk.inj (Option.some.inj h)).2
set_option maxRecDepth 20000 in
set_option maxHeartbeats 4000000 in
theorem s_X7_waysBack_L33 {p : Program} {l : Launch} {e : Env} {s : State} {m : MethodId} {args : Array Value} {below : List Frame} {meth : Method} {c : Code} {X : GX} (σ : GM) (d : Nat) (kr : Int32 → Int32 → Int32 → Int32 → Option Int64) (hkr : ∀ (b1 : Int32) (b2 : Int32) (b3 : Int32) (b4 : Int32) (x9 : Int64) , kr b1 b2 b3 b4 = some x9 → gMet l yX7_waysBack cX7_waysBack 9 (some .long) ({ frames := d + 1, cells := 0, slots := 0, locals := d * 28 + 23 } : Room) X σ [.ref (X.2.1 + 8), .int b1, .int b2, .int b3, .int b4] (gQl X σ x9)) (x : Int64) (Γ : gC X p m meth c cX7_waysBack 9 s args RX7 (some .long)) (v1 : Int32) (v2 : Int32) (v3 : Int32) (v4 : Int32) :
    ∀ (k : Nat) (v5 : Int64) (v7 : Int32) (H : Heap) (locs : List Loc) (ls : Array Slot), gI X σ s H locs → lv_has ls 9 [(0, .ref (X.2.1 + 8)), (1, .int v1), (2, .int v2), (3, .int v3), (4, .int v4), (5, .long v5), (7, .int v7)] → f_X7_waysBack_L33 σ kr v1 v2 v3 v4 k v5 v7 = some x →
    W p l e ({ frames := d + 1 + 1, cells := 0, slots := 0, locals := (d + 1) * 28 + 23 } : Room) s m args below meth c H locs 0 0 (MQ below (gQl X σ x) args s 0 0 (gA X)) (F0 m 33 ls []) := by
  intro k
  induction k with
  | zero =>
    intro v5 v7 H locs ls hI hl h
    exact absurd h (by simp [f_X7_waysBack_L33])
  | succ k ih =>
    intro v5 v7 H locs ls hI hl h
    unfold f_X7_waysBack_L33 at h
    refine lv_iload Γ.1.1 Γ.1.2.1 dX7_waysBack_33 (lv_at hl 6 rfl) ?_
    refine lv_bipush (v := (12 : Int32)) Γ.1.1 Γ.1.2.1 dX7_waysBack_35 (by decide) ?_
    refine lv_icmp_ge (tgt := 95) Γ.1.1 Γ.1.2.1 dX7_waysBack_37 (by decide) (fun c_4 => ?_) (fun c_4 => ?_)
    · replace h := ite_pos c_4 h; clear c_4
      refine lv_lload Γ.1.1 Γ.1.2.1 dX7_waysBack_95 (lv_at hl 5 rfl) ?_
      exact g_lret Γ hI dX7_waysBack_97 rfl (Option.some.inj h)
    · replace h := ite_neg c_4 h; clear c_4
      refine lv_aload_n Γ.1.1 Γ.1.2.1 dX7_waysBack_40 rfl (lv_at hl 0 rfl) ?_
      refine lv_iload_n Γ.1.1 Γ.1.2.1 dX7_waysBack_41 rfl (lv_at hl 2 rfl) ?_
      refine lv_iload Γ.1.1 Γ.1.2.1 dX7_waysBack_42 (lv_at hl 6 rfl) ?_
      obtain ⟨r_5, hr_5, h⟩ := ob_some h
      refine g_ci Γ hI (g_runV (As := [.int v2, .int v7]) Γ hI (S_X3_linesOf l X σ 8 sh_8 v2 v7 r_5 hr_5) mf_X3_linesOf (recv_X3 sh_8 Γ hI) gw_144 rfl rfl ⟨by show 0 + 1 ≤ d + 1 + 1; omega, by show 8 + (4 + 11) + 0 ≤ (d + 1) * 28 + 23; omega⟩ rfl hl.1 rfl (Nat.le_of_ble_eq_true rfl) dX7_waysBack_44 ⟨Nat.zero_le _, Nat.zero_le _⟩) (fun H locs hI => ?_)
      clear hr_5
      refine lv_istore (lv' := [(8, .int r_5), (0, .ref (X.2.1 + 8)), (1, .int v1), (2, .int v2), (3, .int v3), (4, .int v4), (5, .long v5), (7, .int v7)]) Γ.1.1 Γ.1.2.1 dX7_waysBack_47 hl (by decide) rfl (fun ls hl => ?_)
      refine lv_iload Γ.1.1 Γ.1.2.1 dX7_waysBack_49 (lv_at hl 0 rfl) ?_
      refine lv_if_le (tgt := 89) Γ.1.1 Γ.1.2.1 dX7_waysBack_51 (by decide) (fun c_7 => ?_) (fun c_7 => ?_)
      · replace h := ite_pos c_7 h; clear c_7
        obtain ⟨v7_8, e_v7_8, h⟩ := nm_some h
        refine lv_iinc (v := v7_8) (lv' := [(7, .int v7_8), (8, .int r_5), (0, .ref (X.2.1 + 8)), (1, .int v1), (2, .int v2), (3, .int v3), (4, .int v4), (5, .long v5)]) Γ.1.1 Γ.1.2.1 dX7_waysBack_89 hl (k := 7) rfl (by rw [e_v7_8]; rfl) (by decide) rfl (fun ls hl => ?_)
        clear e_v7_8
        refine lv_goto (tgt := 33) Γ.1.1 Γ.1.2.1 dX7_waysBack_92 (by decide) ?_
        exact ih v5 v7_8 _ _ _ hI (lv_sub hl [2, 3, 4, 5, 6, 7, 0] rfl) h
      · replace h := ite_neg c_7 h; clear c_7
        refine lv_iload_n Γ.1.1 Γ.1.2.1 dX7_waysBack_54 rfl (lv_at hl 4 rfl) ?_
        refine lv_iload Γ.1.1 Γ.1.2.1 dX7_waysBack_55 (lv_at hl 7 rfl) ?_
        obtain ⟨r_9, hr_9, h⟩ := ob_some h
        refine g_ci Γ hI (g_runS (As := [.int v3, .int v7]) Γ hI (S_X3_holds l X σ v3 v7 r_9 hr_9) mf_X3_holds gw_145 rfl rfl ⟨by show 0 + 1 ≤ d + 1 + 1; omega, by show 8 + (2 + 11) + 0 ≤ (d + 1) * 28 + 23; omega⟩ rfl hl.1 rfl (Nat.le_of_ble_eq_true rfl) dX7_waysBack_57 ⟨Nat.zero_le _, Nat.zero_le _⟩) (fun H locs hI => ?_)
        clear hr_9
        refine lv_if_ne (tgt := 89) Γ.1.1 Γ.1.2.1 dX7_waysBack_60 (by decide) (fun c_11 => ?_) (fun c_11 => ?_)
        · replace h := ite_neg c_11 h; clear c_11
          obtain ⟨v7_12, e_v7_12, h⟩ := nm_some h
          refine lv_iinc (v := v7_12) (lv' := [(7, .int v7_12), (8, .int r_5), (0, .ref (X.2.1 + 8)), (1, .int v1), (2, .int v2), (3, .int v3), (4, .int v4), (5, .long v5)]) Γ.1.1 Γ.1.2.1 dX7_waysBack_89 hl (k := 7) rfl (by rw [e_v7_12]; rfl) (by decide) rfl (fun ls hl => ?_)
          clear e_v7_12
          refine lv_goto (tgt := 33) Γ.1.1 Γ.1.2.1 dX7_waysBack_92 (by decide) ?_
          exact ih v5 v7_12 _ _ _ hI (lv_sub hl [2, 3, 4, 5, 6, 7, 0] rfl) h
        · replace h := ite_pos c_11 h; clear c_11
          refine lv_lload Γ.1.1 Γ.1.2.1 dX7_waysBack_63 (lv_at hl 6 rfl) ?_
          refine lv_iload Γ.1.1 Γ.1.2.1 dX7_waysBack_65 (lv_at hl 0 rfl) ?_
          refine lv_i2l (v := (r_5.toInt64)) Γ.1.1 Γ.1.2.1 dX7_waysBack_67 rfl ?_
          refine lv_aload_n Γ.1.1 Γ.1.2.1 dX7_waysBack_68 rfl (lv_at hl 1 rfl) ?_
          refine lv_iload_n Γ.1.1 Γ.1.2.1 dX7_waysBack_69 rfl (lv_at hl 2 rfl) ?_
          refine lv_iload Γ.1.1 Γ.1.2.1 dX7_waysBack_70 (lv_at hl 7 rfl) ?_
          refine lv_iload_n Γ.1.1 Γ.1.2.1 dX7_waysBack_72 rfl (lv_at hl 4 rfl) ?_
          refine lv_iconst (v := (1 : Int32)) Γ.1.1 Γ.1.2.1 dX7_waysBack_73 (by decide) ?_
          refine lv_iload Γ.1.1 Γ.1.2.1 dX7_waysBack_74 (lv_at hl 7 rfl) ?_
          refine lv_ishl Γ.1.1 Γ.1.2.1 dX7_waysBack_76 ?_
          refine lv_ior Γ.1.1 Γ.1.2.1 dX7_waysBack_77 ?_
          refine lv_iload Γ.1.1 Γ.1.2.1 dX7_waysBack_78 (lv_at hl 5 rfl) ?_
          refine lv_iconst (v := (1 : Int32)) Γ.1.1 Γ.1.2.1 dX7_waysBack_80 (by decide) ?_
          refine lv_iadd Γ.1.1 Γ.1.2.1 dX7_waysBack_81 ?_
          obtain ⟨r_13, hr_13, h⟩ := ob_some h
          refine g_cl Γ hI (g_runS (As := [.ref (X.2.1 + 8), .int v1, .int v7, .int (v3 ||| ((1 : Int32) <<< (v7 &&& 31))), .int (v4 + (1 : Int32))]) Γ hI (hkr v1 v7 (v3 ||| ((1 : Int32) <<< (v7 &&& 31))) (v4 + (1 : Int32)) r_13 hr_13) mf_X7_waysBack gw_146 rfl rfl ⟨by show d + 1 + 1 ≤ d + 1 + 1; omega, by show 8 + (9 + 11) + (d * 28 + 23) ≤ (d + 1) * 28 + 23; omega⟩ rfl hl.1 rfl (Nat.le_of_ble_eq_true rfl) dX7_waysBack_82 ⟨Nat.zero_le _, Nat.zero_le _⟩) (fun H locs hI => ?_)
          clear hr_13
          refine lv_lmul Γ.1.1 Γ.1.2.1 dX7_waysBack_85 ?_
          refine lv_ladd Γ.1.1 Γ.1.2.1 dX7_waysBack_86 ?_
          refine lv_topl (fun v5_15 e_v5_15 => ?_)
          replace h := nm_at e_v5_15 h; clear e_v5_15
          refine lv_lstore (lv' := [(5, .long v5_15), (8, .int r_5), (0, .ref (X.2.1 + 8)), (1, .int v1), (2, .int v2), (3, .int v3), (4, .int v4), (7, .int v7)]) Γ.1.1 Γ.1.2.1 dX7_waysBack_87 hl (by decide) rfl (fun ls hl => ?_)
          obtain ⟨v7_16, e_v7_16, h⟩ := nm_some h
          refine lv_iinc (v := v7_16) (lv' := [(7, .int v7_16), (5, .long v5_15), (8, .int r_5), (0, .ref (X.2.1 + 8)), (1, .int v1), (2, .int v2), (3, .int v3), (4, .int v4)]) Γ.1.1 Γ.1.2.1 dX7_waysBack_89 hl (k := 7) rfl (by rw [e_v7_16]; rfl) (by decide) rfl (fun ls hl => ?_)
          clear e_v7_16
          refine lv_goto (tgt := 33) Γ.1.1 Γ.1.2.1 dX7_waysBack_92 (by decide) ?_
          exact ih v5_15 v7_16 _ _ _ hI (lv_sub hl [3, 4, 5, 6, 7, 1, 0] rfl) h
set_option maxRecDepth 20000 in
set_option maxHeartbeats 4000000 in
theorem s_X7_waysBack_L26 {p : Program} {l : Launch} {e : Env} {s : State} {m : MethodId} {args : Array Value} {below : List Frame} {meth : Method} {c : Code} {X : GX} (σ : GM) (d : Nat) (kr : Int32 → Int32 → Int32 → Int32 → Option Int64) (hkr : ∀ (b1 : Int32) (b2 : Int32) (b3 : Int32) (b4 : Int32) (x9 : Int64) , kr b1 b2 b3 b4 = some x9 → gMet l yX7_waysBack cX7_waysBack 9 (some .long) ({ frames := d + 1, cells := 0, slots := 0, locals := d * 28 + 23 } : Room) X σ [.ref (X.2.1 + 8), .int b1, .int b2, .int b3, .int b4] (gQl X σ x9)) (x : Int64) (Γ : gC X p m meth c cX7_waysBack 9 s args RX7 (some .long)) :
    ∀ (v1 : Int32) (v2 : Int32) (v3 : Int32) (v4 : Int32) (s0 : Int64) (H : Heap) (locs : List Loc) (ls : Array Slot), gI X σ s H locs → lv_has ls 9 [(0, .ref (X.2.1 + 8)), (1, .int v1), (2, .int v2), (3, .int v3), (4, .int v4)] → f_X7_waysBack_L26 σ kr v1 v2 v3 v4 s0 = some x →
    W p l e ({ frames := d + 1 + 1, cells := 0, slots := 0, locals := (d + 1) * 28 + 23 } : Room) s m args below meth c H locs 0 0 (MQ below (gQl X σ x) args s 0 0 (gA X)) (F0 m 26 ls [.long s0]) := by
  intro v1 v2 v3 v4 s0 H locs ls hI hl h
  unfold f_X7_waysBack_L26 at h
  refine lv_lstore (lv' := [(5, .long s0), (0, .ref (X.2.1 + 8)), (1, .int v1), (2, .int v2), (3, .int v3), (4, .int v4)]) Γ.1.1 Γ.1.2.1 dX7_waysBack_26 hl (by decide) rfl (fun ls hl => ?_)
  refine lv_iload_n Γ.1.1 Γ.1.2.1 dX7_waysBack_28 rfl (lv_at hl 2 rfl) ?_
  refine lv_iconst (v := (1 : Int32)) Γ.1.1 Γ.1.2.1 dX7_waysBack_29 (by decide) ?_
  refine lv_iadd Γ.1.1 Γ.1.2.1 dX7_waysBack_30 ?_
  refine lv_topi (fun v7_3 e_v7_3 => ?_)
  replace h := nm_at e_v7_3 h; clear e_v7_3
  refine lv_istore (lv' := [(7, .int v7_3), (5, .long s0), (0, .ref (X.2.1 + 8)), (1, .int v1), (2, .int v2), (3, .int v3), (4, .int v4)]) Γ.1.1 Γ.1.2.1 dX7_waysBack_31 hl (by decide) rfl (fun ls hl => ?_)
  exact s_X7_waysBack_L33 σ d kr hkr x Γ v1 v2 v3 v4 _ s0 v7_3 _ _ _ hI (lv_sub hl [2, 3, 4, 5, 6, 1, 0] rfl) h
set_option maxRecDepth 20000 in
set_option maxHeartbeats 4000000 in
theorem S_X7_waysBack (l : Launch) (X : GX) : ∀ (d : Nat) (σ : GM) (v1 : Int32) (v2 : Int32) (v3 : Int32) (v4 : Int32) (x : Int64) , f_X7_waysBack d σ v1 v2 v3 v4 = some x → gMet l yX7_waysBack cX7_waysBack 9 (some .long) ({ frames := d + 1, cells := 0, slots := 0, locals := d * 28 + 23 } : Room) X σ [.ref (X.2.1 + 8), .int v1, .int v2, .int v3, .int v4] (gQl X σ x) := by
  intro d
  induction d with
  | zero =>
    intro σ v1 v2 v3 v4 x h
    exact absurd h (by simp [f_X7_waysBack])
  | succ d ihd =>
    intro σ v1 v2 v3 v4 x h
    unfold f_X7_waysBack at h
    refine gMet_of (lv := [(0, .ref (X.2.1 + 8)), (1, .int v1), (2, .int v2), (3, .int v3), (4, .int v4)]) (by decide) rfl (Nat.le_of_ble_eq_true rfl) rfl (fun p e s m below meth c H ls Γ hI hl => ?_)
    refine lv_iload Γ.1.1 Γ.1.2.1 dX7_waysBack_0 (lv_at hl 4 rfl) ?_
    refine lv_bipush (v := (12 : Int32)) Γ.1.1 Γ.1.2.1 dX7_waysBack_2 (by decide) ?_
    refine lv_icmp_le (tgt := 9) Γ.1.1 Γ.1.2.1 dX7_waysBack_4 (by decide) (fun c_1 => ?_) (fun c_1 => ?_)
    · replace h := ite_pos c_1 h; clear c_1
      refine lv_iload Γ.1.1 Γ.1.2.1 dX7_waysBack_9 (lv_at hl 4 rfl) ?_
      refine lv_iconst (v := (2 : Int32)) Γ.1.1 Γ.1.2.1 dX7_waysBack_11 (by decide) ?_
      refine lv_icmp_le (tgt := 25) Γ.1.1 Γ.1.2.1 dX7_waysBack_12 (by decide) (fun c_2 => ?_) (fun c_2 => ?_)
      · replace h := ite_pos c_2 h; clear c_2
        refine lv_lconst (v := (0 : Int64)) Γ.1.1 Γ.1.2.1 dX7_waysBack_25 (by decide) ?_
        exact s_X7_waysBack_L26 σ d _ (ihd σ) x Γ v1 v2 v3 v4 (0 : Int64) _ _ _ hI hl h
      · replace h := ite_neg c_2 h; clear c_2
        refine lv_aload_n Γ.1.1 Γ.1.2.1 dX7_waysBack_15 rfl (lv_at hl 0 rfl) ?_
        refine lv_iload_n Γ.1.1 Γ.1.2.1 dX7_waysBack_16 rfl (lv_at hl 2 rfl) ?_
        refine lv_iload_n Γ.1.1 Γ.1.2.1 dX7_waysBack_17 rfl (lv_at hl 1 rfl) ?_
        obtain ⟨r_17, hr_17, h⟩ := ob_some h
        refine g_ci Γ hI (g_runV (As := [.int v2, .int v1]) Γ hI (S_X3_linesOf l X σ 8 sh_8 v2 v1 r_17 hr_17) mf_X3_linesOf (recv_X3 sh_8 Γ hI) gw_144 rfl rfl ⟨by show 0 + 1 ≤ d + 1 + 1; omega, by show 8 + (4 + 11) + 0 ≤ (d + 1) * 28 + 23; omega⟩ rfl hl.1 rfl (Nat.le_of_ble_eq_true rfl) dX7_waysBack_18 ⟨Nat.zero_le _, Nat.zero_le _⟩) (fun H locs hI => ?_)
        clear hr_17
        refine lv_i2l (v := (r_17.toInt64)) Γ.1.1 Γ.1.2.1 dX7_waysBack_21 rfl ?_
        refine lv_goto (tgt := 26) Γ.1.1 Γ.1.2.1 dX7_waysBack_22 (by decide) ?_
        exact s_X7_waysBack_L26 σ d _ (ihd σ) x Γ v1 v2 v3 v4 (r_17.toInt64) _ _ _ hI hl h
    · replace h := ite_neg c_1 h; clear c_1
      refine lv_lconst (v := (0 : Int64)) Γ.1.1 Γ.1.2.1 dX7_waysBack_7 (by decide) ?_
      exact g_lret Γ hI dX7_waysBack_8 rfl (Option.some.inj h)
set_option maxRecDepth 20000 in
set_option maxHeartbeats 4000000 in
theorem s_X7_of_L68 {p : Program} {l : Launch} {e : Env} {s : State} {m : MethodId} {args : Array Value} {below : List Frame} {meth : Method} {c : Code} {X : GX} (σ : GM) (x : Int64) (Γ : gC X p m meth c cX7_of 8 s args RX7 (some .long)) (k7 : Int64 → Int64 → Int32 → Option Int64) (hk7 : ∀ (v1 : Int64) (v3 : Int64) (v5 : Int32) (H : Heap) (locs : List Loc) (ls : Array Slot), gI X σ s H locs → lv_has ls 8 [(0, .ref (X.2.1 + 8)), (1, .long v1), (3, .long v3), (5, .int v5)] → k7 v1 v3 v5 = some x → W p l e ({ frames := 16, cells := 0, slots := 0, locals := 443 } : Room) s m args below meth c H locs 0 0 (MQ below (gQl X σ x) args s 0 0 (gA X)) (F0 m 7 ls [])) :
    ∀ (v1 : Int64) (v3 : Int64) (v5 : Int32) (H : Heap) (locs : List Loc) (ls : Array Slot), gI X σ s H locs → lv_has ls 8 [(0, .ref (X.2.1 + 8)), (1, .long v1), (3, .long v3), (5, .int v5)] → f_X7_of_L68 σ k7 v1 v3 v5 = some x →
    W p l e ({ frames := 16, cells := 0, slots := 0, locals := 443 } : Room) s m args below meth c H locs 0 0 (MQ below (gQl X σ x) args s 0 0 (gA X)) (F0 m 68 ls []) := by
  intro v1 v3 v5 H locs ls hI hl h
  unfold f_X7_of_L68 at h
  refine lv_aload_n Γ.1.1 Γ.1.2.1 dX7_of_68 rfl (lv_at hl 0 rfl) ?_
  refine lv_iload Γ.1.1 Γ.1.2.1 dX7_of_69 (lv_at hl 3 rfl) ?_
  obtain ⟨r_8, hr_8, h⟩ := ob_some h
  refine g_ci Γ hI (g_runV (As := [.int v5]) Γ hI (S_X3_isThere l X σ 8 sh_8 v5 r_8 hr_8) mf_X3_isThere (recv_X3 sh_8 Γ hI) gw_148 rfl rfl ⟨Nat.le_of_ble_eq_true rfl, Nat.le_of_ble_eq_true rfl⟩ rfl hl.1 rfl (Nat.le_of_ble_eq_true rfl) dX7_of_71 ⟨Nat.zero_le _, Nat.zero_le _⟩) (fun H locs hI => ?_)
  clear hr_8
  refine lv_if_eq (tgt := 93) Γ.1.1 Γ.1.2.1 dX7_of_74 (by decide) (fun c_10 => ?_) (fun c_10 => ?_)
  · replace h := ite_pos c_10 h; clear c_10
    obtain ⟨v5_11, e_v5_11, h⟩ := nm_some h
    refine lv_iinc (v := v5_11) (lv' := [(5, .int v5_11), (0, .ref (X.2.1 + 8)), (1, .long v1), (3, .long v3)]) Γ.1.1 Γ.1.2.1 dX7_of_93 hl (k := 3) rfl (by rw [e_v5_11]; rfl) (by decide) rfl (fun ls hl => ?_)
    clear e_v5_11
    refine lv_goto (tgt := 7) Γ.1.1 Γ.1.2.1 dX7_of_96 (by decide) ?_
    exact hk7 v1 v3 v5_11 _ _ _ hI (lv_sub hl [1, 2, 3, 0] rfl) h
  · replace h := ite_neg c_10 h; clear c_10
    refine lv_lload_n Γ.1.1 Γ.1.2.1 dX7_of_77 rfl (lv_at hl 2 rfl) ?_
    refine lv_aload_n Γ.1.1 Γ.1.2.1 dX7_of_78 rfl (lv_at hl 0 rfl) ?_
    refine lv_iload Γ.1.1 Γ.1.2.1 dX7_of_79 (lv_at hl 3 rfl) ?_
    refine lv_iload Γ.1.1 Γ.1.2.1 dX7_of_81 (lv_at hl 3 rfl) ?_
    refine lv_iconst (v := (1 : Int32)) Γ.1.1 Γ.1.2.1 dX7_of_83 (by decide) ?_
    refine lv_iload Γ.1.1 Γ.1.2.1 dX7_of_84 (lv_at hl 3 rfl) ?_
    refine lv_ishl Γ.1.1 Γ.1.2.1 dX7_of_86 ?_
    refine lv_iconst (v := (1 : Int32)) Γ.1.1 Γ.1.2.1 dX7_of_87 (by decide) ?_
    obtain ⟨r_12, hr_12, h⟩ := ob_some h
    refine g_cl Γ hI (g_runS (As := [.ref (X.2.1 + 8), .int v5, .int v5, .int ((1 : Int32) <<< (v5 &&& 31)), .int (1 : Int32)]) Γ hI (S_X7_waysBack l X 14 σ v5 v5 ((1 : Int32) <<< (v5 &&& 31)) (1 : Int32) r_12 hr_12) mf_X7_waysBack gw_146 rfl rfl ⟨Nat.le_of_ble_eq_true rfl, Nat.le_of_ble_eq_true rfl⟩ rfl hl.1 rfl (Nat.le_of_ble_eq_true rfl) dX7_of_88 ⟨Nat.zero_le _, Nat.zero_le _⟩) (fun H locs hI => ?_)
    clear hr_12
    refine lv_ladd Γ.1.1 Γ.1.2.1 dX7_of_91 ?_
    refine lv_topl (fun v3_14 e_v3_14 => ?_)
    replace h := nm_at e_v3_14 h; clear e_v3_14
    refine lv_lstore_n (lv' := [(3, .long v3_14), (0, .ref (X.2.1 + 8)), (1, .long v1), (5, .int v5)]) Γ.1.1 Γ.1.2.1 dX7_of_92 rfl hl (by decide) rfl (fun ls hl => ?_)
    obtain ⟨v5_15, e_v5_15, h⟩ := nm_some h
    refine lv_iinc (v := v5_15) (lv' := [(5, .int v5_15), (3, .long v3_14), (0, .ref (X.2.1 + 8)), (1, .long v1)]) Γ.1.1 Γ.1.2.1 dX7_of_93 hl (k := 3) rfl (by rw [e_v5_15]; rfl) (by decide) rfl (fun ls hl => ?_)
    clear e_v5_15
    refine lv_goto (tgt := 7) Γ.1.1 Γ.1.2.1 dX7_of_96 (by decide) ?_
    exact hk7 v1 v3_14 v5_15 _ _ _ hI (lv_sub hl [2, 3, 1, 0] rfl) h
set_option maxRecDepth 20000 in
set_option maxHeartbeats 4000000 in
theorem s_X7_of_L32 {p : Program} {l : Launch} {e : Env} {s : State} {m : MethodId} {args : Array Value} {below : List Frame} {meth : Method} {c : Code} {X : GX} (σ : GM) (x : Int64) (Γ : gC X p m meth c cX7_of 8 s args RX7 (some .long)) (v3 : Int64) (v5 : Int32) (k7 : Int64 → Int64 → Int32 → Option Int64) (hk7 : ∀ (v1 : Int64) (v3 : Int64) (v5 : Int32) (H : Heap) (locs : List Loc) (ls : Array Slot), gI X σ s H locs → lv_has ls 8 [(0, .ref (X.2.1 + 8)), (1, .long v1), (3, .long v3), (5, .int v5)] → k7 v1 v3 v5 = some x → W p l e ({ frames := 16, cells := 0, slots := 0, locals := 443 } : Room) s m args below meth c H locs 0 0 (MQ below (gQl X σ x) args s 0 0 (gA X)) (F0 m 7 ls [])) :
    ∀ (k : Nat) (v1 : Int64) (v6 : Int32) (H : Heap) (locs : List Loc) (ls : Array Slot), gI X σ s H locs → lv_has ls 8 [(0, .ref (X.2.1 + 8)), (1, .long v1), (3, .long v3), (5, .int v5), (6, .int v6)] → f_X7_of_L32 σ k7 v3 v5 k v1 v6 = some x →
    W p l e ({ frames := 16, cells := 0, slots := 0, locals := 443 } : Room) s m args below meth c H locs 0 0 (MQ below (gQl X σ x) args s 0 0 (gA X)) (F0 m 32 ls []) := by
  intro k
  induction k with
  | zero =>
    intro v1 v6 H locs ls hI hl h
    exact absurd h (by simp [f_X7_of_L32])
  | succ k ih =>
    intro v1 v6 H locs ls hI hl h
    unfold f_X7_of_L32 at h
    refine lv_iload Γ.1.1 Γ.1.2.1 dX7_of_32 (lv_at hl 4 rfl) ?_
    refine lv_bipush (v := (12 : Int32)) Γ.1.1 Γ.1.2.1 dX7_of_34 (by decide) ?_
    refine lv_icmp_ge (tgt := 68) Γ.1.1 Γ.1.2.1 dX7_of_36 (by decide) (fun c_7 => ?_) (fun c_7 => ?_)
    · replace h := ite_pos c_7 h; clear c_7
      exact s_X7_of_L68 σ x Γ _ hk7 v1 v3 v5 _ _ _ hI (lv_sub hl [0, 1, 2, 3] rfl) h
    · replace h := ite_neg c_7 h; clear c_7
      refine lv_aload_n Γ.1.1 Γ.1.2.1 dX7_of_39 rfl (lv_at hl 0 rfl) ?_
      refine lv_iload Γ.1.1 Γ.1.2.1 dX7_of_40 (lv_at hl 3 rfl) ?_
      refine lv_iload Γ.1.1 Γ.1.2.1 dX7_of_42 (lv_at hl 4 rfl) ?_
      obtain ⟨r_16, hr_16, h⟩ := ob_some h
      refine g_ci Γ hI (g_runV (As := [.int v5, .int v6]) Γ hI (S_X3_linesOf l X σ 8 sh_8 v5 v6 r_16 hr_16) mf_X3_linesOf (recv_X3 sh_8 Γ hI) gw_144 rfl rfl ⟨Nat.le_of_ble_eq_true rfl, Nat.le_of_ble_eq_true rfl⟩ rfl hl.1 rfl (Nat.le_of_ble_eq_true rfl) dX7_of_44 ⟨Nat.zero_le _, Nat.zero_le _⟩) (fun H locs hI => ?_)
      clear hr_16
      refine lv_istore (lv' := [(7, .int r_16), (0, .ref (X.2.1 + 8)), (1, .long v1), (3, .long v3), (5, .int v5), (6, .int v6)]) Γ.1.1 Γ.1.2.1 dX7_of_47 hl (by decide) rfl (fun ls hl => ?_)
      refine lv_lload_n Γ.1.1 Γ.1.2.1 dX7_of_49 rfl (lv_at hl 2 rfl) ?_
      refine lv_iload Γ.1.1 Γ.1.2.1 dX7_of_50 (lv_at hl 0 rfl) ?_
      refine lv_iload Γ.1.1 Γ.1.2.1 dX7_of_52 (lv_at hl 0 rfl) ?_
      refine lv_iconst (v := (1 : Int32)) Γ.1.1 Γ.1.2.1 dX7_of_54 (by decide) ?_
      refine lv_isub Γ.1.1 Γ.1.2.1 dX7_of_55 ?_
      refine lv_imul Γ.1.1 Γ.1.2.1 dX7_of_56 ?_
      refine lv_iconst (v := (2 : Int32)) Γ.1.1 Γ.1.2.1 dX7_of_57 (by decide) ?_
      obtain ⟨hz_18, h⟩ := nz_some h
      refine lv_idiv Γ.1.1 Γ.1.2.1 dX7_of_58 hz_18 ?_
      refine lv_i2l (v := ((((r_16 * (r_16 - (1 : Int32))) / (2 : Int32))).toInt64)) Γ.1.1 Γ.1.2.1 dX7_of_59 rfl ?_
      refine lv_ladd Γ.1.1 Γ.1.2.1 dX7_of_60 ?_
      refine lv_topl (fun v1_19 e_v1_19 => ?_)
      replace h := nm_at e_v1_19 h; clear e_v1_19
      refine lv_lstore_n (lv' := [(1, .long v1_19), (7, .int r_16), (0, .ref (X.2.1 + 8)), (3, .long v3), (5, .int v5), (6, .int v6)]) Γ.1.1 Γ.1.2.1 dX7_of_61 rfl hl (by decide) rfl (fun ls hl => ?_)
      obtain ⟨v6_20, e_v6_20, h⟩ := nm_some h
      refine lv_iinc (v := v6_20) (lv' := [(6, .int v6_20), (1, .long v1_19), (7, .int r_16), (0, .ref (X.2.1 + 8)), (3, .long v3), (5, .int v5)]) Γ.1.1 Γ.1.2.1 dX7_of_62 hl (k := 5) rfl (by rw [e_v6_20]; rfl) (by decide) rfl (fun ls hl => ?_)
      clear e_v6_20
      refine lv_goto (tgt := 32) Γ.1.1 Γ.1.2.1 dX7_of_65 (by decide) ?_
      exact ih v1_19 v6_20 _ _ _ hI (lv_sub hl [3, 1, 4, 5, 0] rfl) h
set_option maxRecDepth 20000 in
set_option maxHeartbeats 4000000 in
theorem s_X7_of_L7 {p : Program} {l : Launch} {e : Env} {s : State} {m : MethodId} {args : Array Value} {below : List Frame} {meth : Method} {c : Code} {X : GX} (σ : GM) (x : Int64) (Γ : gC X p m meth c cX7_of 8 s args RX7 (some .long)) :
    ∀ (k : Nat) (v1 : Int64) (v3 : Int64) (v5 : Int32) (H : Heap) (locs : List Loc) (ls : Array Slot), gI X σ s H locs → lv_has ls 8 [(0, .ref (X.2.1 + 8)), (1, .long v1), (3, .long v3), (5, .int v5)] → f_X7_of_L7 σ k v1 v3 v5 = some x →
    W p l e ({ frames := 16, cells := 0, slots := 0, locals := 443 } : Room) s m args below meth c H locs 0 0 (MQ below (gQl X σ x) args s 0 0 (gA X)) (F0 m 7 ls []) := by
  intro k
  induction k with
  | zero =>
    intro v1 v3 v5 H locs ls hI hl h
    exact absurd h (by simp [f_X7_of_L7])
  | succ k ih =>
    intro v1 v3 v5 H locs ls hI hl h
    unfold f_X7_of_L7 at h
    refine lv_iload Γ.1.1 Γ.1.2.1 dX7_of_7 (lv_at hl 3 rfl) ?_
    refine lv_bipush (v := (12 : Int32)) Γ.1.1 Γ.1.2.1 dX7_of_9 (by decide) ?_
    refine lv_icmp_ge (tgt := 99) Γ.1.1 Γ.1.2.1 dX7_of_11 (by decide) (fun c_1 => ?_) (fun c_1 => ?_)
    · replace h := ite_pos c_1 h; clear c_1
      refine lv_lload_n Γ.1.1 Γ.1.2.1 dX7_of_99 rfl (lv_at hl 1 rfl) ?_
      refine lv_lload_n Γ.1.1 Γ.1.2.1 dX7_of_100 rfl (lv_at hl 2 rfl) ?_
      refine lv_ldc2 (v := (2 : Int64)) Γ.1.1 Γ.1.2.1 Γ.1.2.2.2.1 (Γ.1.2.2.2.2 _ gw_147) dX7_of_101 ?_
      obtain ⟨hz_2, h⟩ := nzl_some h
      refine lv_ldiv Γ.1.1 Γ.1.2.1 dX7_of_104 hz_2 ?_
      refine lv_ladd Γ.1.1 Γ.1.2.1 dX7_of_105 ?_
      exact g_lret Γ hI dX7_of_106 rfl (Option.some.inj h)
    · replace h := ite_neg c_1 h; clear c_1
      refine lv_lload_n Γ.1.1 Γ.1.2.1 dX7_of_14 rfl (lv_at hl 1 rfl) ?_
      refine lv_aload_n Γ.1.1 Γ.1.2.1 dX7_of_15 rfl (lv_at hl 0 rfl) ?_
      refine lv_iload Γ.1.1 Γ.1.2.1 dX7_of_16 (lv_at hl 3 rfl) ?_
      refine lv_iload Γ.1.1 Γ.1.2.1 dX7_of_18 (lv_at hl 3 rfl) ?_
      obtain ⟨r_3, hr_3, h⟩ := ob_some h
      refine g_ci Γ hI (g_runV (As := [.int v5, .int v5]) Γ hI (S_X3_linesOf l X σ 8 sh_8 v5 v5 r_3 hr_3) mf_X3_linesOf (recv_X3 sh_8 Γ hI) gw_144 rfl rfl ⟨Nat.le_of_ble_eq_true rfl, Nat.le_of_ble_eq_true rfl⟩ rfl hl.1 rfl (Nat.le_of_ble_eq_true rfl) dX7_of_20 ⟨Nat.zero_le _, Nat.zero_le _⟩) (fun H locs hI => ?_)
      clear hr_3
      refine lv_i2l (v := (r_3.toInt64)) Γ.1.1 Γ.1.2.1 dX7_of_23 rfl ?_
      refine lv_ladd Γ.1.1 Γ.1.2.1 dX7_of_24 ?_
      refine lv_topl (fun v1_5 e_v1_5 => ?_)
      replace h := nm_at e_v1_5 h; clear e_v1_5
      refine lv_lstore_n (lv' := [(1, .long v1_5), (0, .ref (X.2.1 + 8)), (3, .long v3), (5, .int v5)]) Γ.1.1 Γ.1.2.1 dX7_of_25 rfl hl (by decide) rfl (fun ls hl => ?_)
      refine lv_iload Γ.1.1 Γ.1.2.1 dX7_of_26 (lv_at hl 3 rfl) ?_
      refine lv_iconst (v := (1 : Int32)) Γ.1.1 Γ.1.2.1 dX7_of_28 (by decide) ?_
      refine lv_iadd Γ.1.1 Γ.1.2.1 dX7_of_29 ?_
      refine lv_topi (fun v6_6 e_v6_6 => ?_)
      replace h := nm_at e_v6_6 h; clear e_v6_6
      refine lv_istore (lv' := [(6, .int v6_6), (1, .long v1_5), (0, .ref (X.2.1 + 8)), (3, .long v3), (5, .int v5)]) Γ.1.1 Γ.1.2.1 dX7_of_30 hl (by decide) rfl (fun ls hl => ?_)
      exact s_X7_of_L32 σ x Γ v3 v5 _ ih _ v1_5 v6_6 _ _ _ hI (lv_sub hl [2, 1, 3, 4, 0] rfl) h
set_option maxRecDepth 20000 in
set_option maxHeartbeats 4000000 in
theorem S_X7_of (l : Launch) (X : GX) (σ : GM) (x : Int64) (h : f_X7_of σ = some x) : gMet l yX7_of cX7_of 8 (some .long) ({ frames := 16, cells := 0, slots := 0, locals := 443 } : Room) X σ [.ref (X.2.1 + 8)] (gQl X σ x) := by
  unfold f_X7_of at h
  refine gMet_of (lv := [(0, .ref (X.2.1 + 8))]) (by decide) rfl (Nat.le_of_ble_eq_true rfl) rfl (fun p e s m below meth c H ls Γ hI hl => ?_)
  refine lv_lconst (v := (0 : Int64)) Γ.1.1 Γ.1.2.1 dX7_of_0 (by decide) ?_
  refine lv_lstore_n (lv' := [(1, .long (0 : Int64)), (0, .ref (X.2.1 + 8))]) Γ.1.1 Γ.1.2.1 dX7_of_1 rfl hl (by decide) rfl (fun ls hl => ?_)
  refine lv_lconst (v := (0 : Int64)) Γ.1.1 Γ.1.2.1 dX7_of_2 (by decide) ?_
  refine lv_lstore_n (lv' := [(3, .long (0 : Int64)), (1, .long (0 : Int64)), (0, .ref (X.2.1 + 8))]) Γ.1.1 Γ.1.2.1 dX7_of_3 rfl hl (by decide) rfl (fun ls hl => ?_)
  refine lv_iconst (v := (0 : Int32)) Γ.1.1 Γ.1.2.1 dX7_of_4 (by decide) ?_
  refine lv_istore (lv' := [(5, .int (0 : Int32)), (3, .long (0 : Int64)), (1, .long (0 : Int64)), (0, .ref (X.2.1 + 8))]) Γ.1.1 Γ.1.2.1 dX7_of_5 hl (by decide) rfl (fun ls hl => ?_)
  exact s_X7_of_L7 σ x Γ _ (0 : Int64) (0 : Int64) (0 : Int32) _ _ _ hI (lv_sub hl [3, 2, 1, 0] rfl) h
set_option maxRecDepth 20000 in
set_option maxHeartbeats 4000000 in
theorem S_X11_rings (l : Launch) (X : GX) (σ : GM) (x : Int64) (h : f_X11_rings σ = some x) : gMet l yX11_rings cX11_rings 1 (some .long) ({ frames := 17, cells := 0, slots := 0, locals := 470 } : Room) X σ [.ref (X.2.1 + 0)] (gQl X σ x) := by
  unfold f_X11_rings at h
  refine gMet_of (lv := [(0, .ref (X.2.1 + 0))]) (by decide) rfl (Nat.le_of_ble_eq_true rfl) rfl (fun p e s m below meth c H ls Γ hI hl => ?_)
  refine lv_aload_n Γ.1.1 Γ.1.2.1 dX11_rings_0 rfl (lv_at hl 0 rfl) ?_
  refine get_X11_net Γ hI gw_106 dX11_rings_1 ?_
  obtain ⟨r_1, hr_1, h⟩ := ob_some h
  refine g_cl Γ hI (g_runS (As := [.ref (X.2.1 + 8)]) Γ hI (S_X7_of l X σ r_1 hr_1) mf_X7_of gw_149 rfl rfl ⟨Nat.le_of_ble_eq_true rfl, Nat.le_of_ble_eq_true rfl⟩ rfl hl.1 rfl (Nat.le_of_ble_eq_true rfl) dX11_rings_4 ⟨Nat.zero_le _, Nat.zero_le _⟩) (fun H locs hI => ?_)
  clear hr_1
  exact g_lret Γ hI dX11_rings_7 rfl (Option.some.inj h)
set_option maxRecDepth 20000 in
set_option maxHeartbeats 4000000 in
theorem s_X8_shortestRing_L4 {p : Program} {l : Launch} {e : Env} {s : State} {m : MethodId} {args : Array Value} {below : List Frame} {meth : Method} {c : Code} {X : GX} (σ : GM) (x : Int32) (Γ : gC X p m meth c cX8_shortestRing 5 s args RX8 (some .int)) :
    ∀ (k : Nat) (v1 : Int32) (v2 : Int32) (H : Heap) (locs : List Loc) (ls : Array Slot), gI X σ s H locs → lv_has ls 5 [(0, .ref (X.2.1 + 49)), (1, .int v1), (2, .int v2)] → f_X8_shortestRing_L4 σ k v1 v2 = some x →
    W p l e ({ frames := 1, cells := 0, slots := 0, locals := 21 } : Room) s m args below meth c H locs 0 0 (MQ below (gQi X σ x) args s 0 0 (gA X)) (F0 m 4 ls []) := by
  intro k
  induction k with
  | zero =>
    intro v1 v2 H locs ls hI hl h
    exact absurd h (by simp [f_X8_shortestRing_L4])
  | succ k ih =>
    intro v1 v2 H locs ls hI hl h
    unfold f_X8_shortestRing_L4 at h
    refine lv_iload_n Γ.1.1 Γ.1.2.1 dX8_shortestRing_4 rfl (lv_at hl 2 rfl) ?_
    refine lv_aload_n Γ.1.1 Γ.1.2.1 dX8_shortestRing_5 rfl (lv_at hl 0 rfl) ?_
    refine get_X8_many Γ hI gw_28 dX8_shortestRing_6 ?_
    refine lv_icmp_ge (tgt := 56) Γ.1.1 Γ.1.2.1 dX8_shortestRing_9 (by decide) (fun c_1 => ?_) (fun c_1 => ?_)
    · replace h := ite_pos c_1 h; clear c_1
      refine lv_iload_n Γ.1.1 Γ.1.2.1 dX8_shortestRing_56 rfl (lv_at hl 1 rfl) ?_
      exact g_iret Γ hI dX8_shortestRing_57 rfl (Option.some.inj h)
    · replace h := ite_neg c_1 h; clear c_1
      refine lv_aload_n Γ.1.1 Γ.1.2.1 dX8_shortestRing_12 rfl (lv_at hl 0 rfl) ?_
      refine lv_iload_n Γ.1.1 Γ.1.2.1 dX8_shortestRing_13 rfl (lv_at hl 2 rfl) ?_
      obtain ⟨r_2, hr_2, h⟩ := ob_some h
      refine g_ci Γ hI (g_runV (As := [.int v2]) Γ hI (S_X8_ringAt l X σ v2 r_2 hr_2) mf_X8_ringAt (recv_X8 Γ hI) gw_150 rfl rfl ⟨Nat.le_of_ble_eq_true rfl, Nat.le_of_ble_eq_true rfl⟩ rfl hl.1 rfl (Nat.le_of_ble_eq_true rfl) dX8_shortestRing_14 ⟨Nat.zero_le _, Nat.zero_le _⟩) (fun H locs hI => ?_)
      clear hr_2
      refine lv_istore_n (lv' := [(3, .int r_2), (0, .ref (X.2.1 + 49)), (1, .int v1), (2, .int v2)]) Γ.1.1 Γ.1.2.1 dX8_shortestRing_17 rfl hl (by decide) rfl (fun ls hl => ?_)
      refine lv_iload_n Γ.1.1 Γ.1.2.1 dX8_shortestRing_18 rfl (lv_at hl 0 rfl) ?_
      obtain ⟨r_4, hr_4, h⟩ := ob_some h
      refine g_ci Γ hI (g_runS (As := [.int r_2]) Γ hI (S_J6_bitCount_0f7a4 l X σ r_2 r_4 hr_4) mf_J6_bitCount_0f7a4 gw_13 rfl rfl ⟨Nat.le_of_ble_eq_true rfl, Nat.le_of_ble_eq_true rfl⟩ rfl hl.1 rfl (Nat.le_of_ble_eq_true rfl) dX8_shortestRing_19 ⟨Nat.zero_le _, Nat.zero_le _⟩) (fun H locs hI => ?_)
      clear hr_4
      refine lv_iload_n Γ.1.1 Γ.1.2.1 dX8_shortestRing_22 rfl (lv_at hl 2 rfl) ?_
      obtain ⟨r_6, hr_6, h⟩ := ob_some h
      refine g_ci Γ hI (g_runS (As := [.int v1]) Γ hI (S_J6_bitCount_0f7a4 l X σ v1 r_6 hr_6) mf_J6_bitCount_0f7a4 gw_13 rfl rfl ⟨Nat.le_of_ble_eq_true rfl, Nat.le_of_ble_eq_true rfl⟩ rfl hl.1 rfl (Nat.le_of_ble_eq_true rfl) dX8_shortestRing_23 ⟨Nat.zero_le _, Nat.zero_le _⟩) (fun H locs hI => ?_)
      clear hr_6
      refine lv_isub Γ.1.1 Γ.1.2.1 dX8_shortestRing_26 ?_
      refine lv_topi (fun v4_8 e_v4_8 => ?_)
      replace h := nm_at e_v4_8 h; clear e_v4_8
      refine lv_istore (lv' := [(4, .int v4_8), (3, .int r_2), (0, .ref (X.2.1 + 49)), (1, .int v1), (2, .int v2)]) Γ.1.1 Γ.1.2.1 dX8_shortestRing_27 hl (by decide) rfl (fun ls hl => ?_)
      refine lv_iload_n Γ.1.1 Γ.1.2.1 dX8_shortestRing_29 rfl (lv_at hl 3 rfl) ?_
      refine lv_if_eq (tgt := 48) Γ.1.1 Γ.1.2.1 dX8_shortestRing_30 (by decide) (fun c_9 => ?_) (fun c_9 => ?_)
      · replace h := ite_pos c_9 h; clear c_9
        refine lv_iload_n Γ.1.1 Γ.1.2.1 dX8_shortestRing_48 rfl (lv_at hl 1 rfl) ?_
        refine lv_istore_n (lv' := [(1, .int r_2), (4, .int v4_8), (3, .int r_2), (0, .ref (X.2.1 + 49)), (2, .int v2)]) Γ.1.1 Γ.1.2.1 dX8_shortestRing_49 rfl hl (by decide) rfl (fun ls hl => ?_)
        obtain ⟨v2_10, e_v2_10, h⟩ := nm_some h
        refine lv_iinc (v := v2_10) (lv' := [(2, .int v2_10), (1, .int r_2), (4, .int v4_8), (3, .int r_2), (0, .ref (X.2.1 + 49))]) Γ.1.1 Γ.1.2.1 dX8_shortestRing_50 hl (k := 4) rfl (by rw [e_v2_10]; rfl) (by decide) rfl (fun ls hl => ?_)
        clear e_v2_10
        refine lv_goto (tgt := 4) Γ.1.1 Γ.1.2.1 dX8_shortestRing_53 (by decide) ?_
        exact ih r_2 v2_10 _ _ _ hI (lv_sub hl [4, 1, 0] rfl) h
      · replace h := ite_neg c_9 h; clear c_9
        refine lv_iload Γ.1.1 Γ.1.2.1 dX8_shortestRing_33 (lv_at hl 0 rfl) ?_
        refine lv_if_lt (tgt := 48) Γ.1.1 Γ.1.2.1 dX8_shortestRing_35 (by decide) (fun c_11 => ?_) (fun c_11 => ?_)
        · replace h := ite_pos c_11 h; clear c_11
          refine lv_iload_n Γ.1.1 Γ.1.2.1 dX8_shortestRing_48 rfl (lv_at hl 1 rfl) ?_
          refine lv_istore_n (lv' := [(1, .int r_2), (4, .int v4_8), (3, .int r_2), (0, .ref (X.2.1 + 49)), (2, .int v2)]) Γ.1.1 Γ.1.2.1 dX8_shortestRing_49 rfl hl (by decide) rfl (fun ls hl => ?_)
          obtain ⟨v2_12, e_v2_12, h⟩ := nm_some h
          refine lv_iinc (v := v2_12) (lv' := [(2, .int v2_12), (1, .int r_2), (4, .int v4_8), (3, .int r_2), (0, .ref (X.2.1 + 49))]) Γ.1.1 Γ.1.2.1 dX8_shortestRing_50 hl (k := 4) rfl (by rw [e_v2_12]; rfl) (by decide) rfl (fun ls hl => ?_)
          clear e_v2_12
          refine lv_goto (tgt := 4) Γ.1.1 Γ.1.2.1 dX8_shortestRing_53 (by decide) ?_
          exact ih r_2 v2_12 _ _ _ hI (lv_sub hl [4, 1, 0] rfl) h
        · replace h := ite_neg c_11 h; clear c_11
          refine lv_iload Γ.1.1 Γ.1.2.1 dX8_shortestRing_38 (lv_at hl 0 rfl) ?_
          refine lv_if_ne (tgt := 50) Γ.1.1 Γ.1.2.1 dX8_shortestRing_40 (by decide) (fun c_13 => ?_) (fun c_13 => ?_)
          · replace h := ite_neg c_13 h; clear c_13
            obtain ⟨v2_14, e_v2_14, h⟩ := nm_some h
            refine lv_iinc (v := v2_14) (lv' := [(2, .int v2_14), (4, .int v4_8), (3, .int r_2), (0, .ref (X.2.1 + 49)), (1, .int v1)]) Γ.1.1 Γ.1.2.1 dX8_shortestRing_50 hl (k := 4) rfl (by rw [e_v2_14]; rfl) (by decide) rfl (fun ls hl => ?_)
            clear e_v2_14
            refine lv_goto (tgt := 4) Γ.1.1 Γ.1.2.1 dX8_shortestRing_53 (by decide) ?_
            exact ih v1 v2_14 _ _ _ hI (lv_sub hl [3, 4, 0] rfl) h
          · replace h := ite_pos c_13 h; clear c_13
            refine lv_iload_n Γ.1.1 Γ.1.2.1 dX8_shortestRing_43 rfl (lv_at hl 1 rfl) ?_
            refine lv_iload_n Γ.1.1 Γ.1.2.1 dX8_shortestRing_44 rfl (lv_at hl 3 rfl) ?_
            refine lv_icmp_ge (tgt := 50) Γ.1.1 Γ.1.2.1 dX8_shortestRing_45 (by decide) (fun c_15 => ?_) (fun c_15 => ?_)
            · replace h := ite_pos c_15 h; clear c_15
              obtain ⟨v2_16, e_v2_16, h⟩ := nm_some h
              refine lv_iinc (v := v2_16) (lv' := [(2, .int v2_16), (4, .int v4_8), (3, .int r_2), (0, .ref (X.2.1 + 49)), (1, .int v1)]) Γ.1.1 Γ.1.2.1 dX8_shortestRing_50 hl (k := 4) rfl (by rw [e_v2_16]; rfl) (by decide) rfl (fun ls hl => ?_)
              clear e_v2_16
              refine lv_goto (tgt := 4) Γ.1.1 Γ.1.2.1 dX8_shortestRing_53 (by decide) ?_
              exact ih v1 v2_16 _ _ _ hI (lv_sub hl [3, 4, 0] rfl) h
            · replace h := ite_neg c_15 h; clear c_15
              refine lv_iload_n Γ.1.1 Γ.1.2.1 dX8_shortestRing_48 rfl (lv_at hl 1 rfl) ?_
              refine lv_istore_n (lv' := [(1, .int r_2), (4, .int v4_8), (3, .int r_2), (0, .ref (X.2.1 + 49)), (2, .int v2)]) Γ.1.1 Γ.1.2.1 dX8_shortestRing_49 rfl hl (by decide) rfl (fun ls hl => ?_)
              obtain ⟨v2_17, e_v2_17, h⟩ := nm_some h
              refine lv_iinc (v := v2_17) (lv' := [(2, .int v2_17), (1, .int r_2), (4, .int v4_8), (3, .int r_2), (0, .ref (X.2.1 + 49))]) Γ.1.1 Γ.1.2.1 dX8_shortestRing_50 hl (k := 4) rfl (by rw [e_v2_17]; rfl) (by decide) rfl (fun ls hl => ?_)
              clear e_v2_17
              refine lv_goto (tgt := 4) Γ.1.1 Γ.1.2.1 dX8_shortestRing_53 (by decide) ?_
              exact ih r_2 v2_17 _ _ _ hI (lv_sub hl [4, 1, 0] rfl) h
set_option maxRecDepth 20000 in
set_option maxHeartbeats 4000000 in
theorem S_X8_shortestRing (l : Launch) (X : GX) (σ : GM) (x : Int32) (h : f_X8_shortestRing σ = some x) : gMet l yX8_shortestRing cX8_shortestRing 5 (some .int) ({ frames := 1, cells := 0, slots := 0, locals := 21 } : Room) X σ [.ref (X.2.1 + 49)] (gQi X σ x) := by
  unfold f_X8_shortestRing at h
  refine gMet_of (lv := [(0, .ref (X.2.1 + 49))]) (by decide) rfl (Nat.le_of_ble_eq_true rfl) rfl (fun p e s m below meth c H ls Γ hI hl => ?_)
  refine lv_iconst (v := (0 : Int32)) Γ.1.1 Γ.1.2.1 dX8_shortestRing_0 (by decide) ?_
  refine lv_istore_n (lv' := [(1, .int (0 : Int32)), (0, .ref (X.2.1 + 49))]) Γ.1.1 Γ.1.2.1 dX8_shortestRing_1 rfl hl (by decide) rfl (fun ls hl => ?_)
  refine lv_iconst (v := (0 : Int32)) Γ.1.1 Γ.1.2.1 dX8_shortestRing_2 (by decide) ?_
  refine lv_istore_n (lv' := [(2, .int (0 : Int32)), (1, .int (0 : Int32)), (0, .ref (X.2.1 + 49))]) Γ.1.1 Γ.1.2.1 dX8_shortestRing_3 rfl hl (by decide) rfl (fun ls hl => ?_)
  exact s_X8_shortestRing_L4 σ x Γ _ (0 : Int32) (0 : Int32) _ _ _ hI (lv_sub hl [2, 1, 0] rfl) h
set_option maxRecDepth 20000 in
set_option maxHeartbeats 4000000 in
theorem S_X11_shortest (l : Launch) (X : GX) (σ : GM) (σr : GM) (x : Int32) (h : f_X11_shortest σ = some (σr, x)) : gMet l yX11_shortest cX11_shortest 1 (some .int) ({ frames := 5, cells := 0, slots := 0, locals := 110 } : Room) X σ [.ref (X.2.1 + 0)] (gQi X σr x) := by
  unfold f_X11_shortest at h
  refine gMet_of (lv := [(0, .ref (X.2.1 + 0))]) (by decide) rfl (Nat.le_of_ble_eq_true rfl) rfl (fun p e s m below meth c H ls Γ hI hl => ?_)
  refine lv_aload_n Γ.1.1 Γ.1.2.1 dX11_shortest_0 rfl (lv_at hl 0 rfl) ?_
  obtain ⟨σ_2, hr_1, h⟩ := ob_some h
  refine g_cr Γ hI (g_runV (As := []) Γ hI (S_X11_ringsNow l X σ σ_2 hr_1) mf_X11_ringsNow (recv_X11 Γ hI) gw_138 rfl rfl ⟨Nat.le_of_ble_eq_true rfl, Nat.le_of_ble_eq_true rfl⟩ rfl hl.1 rfl (Nat.le_of_ble_eq_true rfl) dX11_shortest_1 ⟨Nat.zero_le _, Nat.zero_le _⟩) (fun H locs hI => ?_)
  clear hr_1
  obtain ⟨r_3, hr_3, h⟩ := ob_some h
  refine g_ci Γ hI (g_runV (As := []) Γ hI (S_X8_shortestRing l X σ_2 r_3 hr_3) mf_X8_shortestRing (recv_X8 Γ hI) gw_151 rfl rfl ⟨Nat.le_of_ble_eq_true rfl, Nat.le_of_ble_eq_true rfl⟩ rfl hl.1 rfl (Nat.le_of_ble_eq_true rfl) dX11_shortest_4 ⟨Nat.zero_le _, Nat.zero_le _⟩) (fun H locs hI => ?_)
  clear hr_3
  exact g_iret Γ hI dX11_shortest_7 (Prod.mk.inj (Option.some.inj h)).1 (Prod.mk.inj (Option.some.inj h)).2
set_option maxRecDepth 20000 in
set_option maxHeartbeats 4000000 in
theorem S_X4_mostIn (l : Launch) (X : GX) (σ : GM) (v1 : Int32) (x : Int32) (h : f_X4_mostIn σ v1 = some x) : gMet l yX4_mostIn cX4_mostIn 2 (some .int) ({ frames := 0, cells := 0, slots := 0, locals := 0 } : Room) X σ [.ref (X.2.1 + 55), .int v1] (gQi X σ x) := by
  unfold f_X4_mostIn at h
  refine gMet_of (lv := [(0, .ref (X.2.1 + 55)), (1, .int v1)]) (by decide) rfl (Nat.le_of_ble_eq_true rfl) rfl (fun p e s m below meth c H ls Γ hI hl => ?_)
  refine lv_iload_n Γ.1.1 Γ.1.2.1 dX4_mostIn_0 rfl (lv_at hl 1 rfl) ?_
  refine lv_if_lt (tgt := 22) Γ.1.1 Γ.1.2.1 dX4_mostIn_1 (by decide) (fun c_1 => ?_) (fun c_1 => ?_)
  · replace h := ite_pos c_1 h; clear c_1
    refine lv_iconst (v := (0 : Int32)) Γ.1.1 Γ.1.2.1 dX4_mostIn_22 (by decide) ?_
    exact g_iret Γ hI dX4_mostIn_23 rfl (Option.some.inj h)
  · replace h := ite_neg c_1 h; clear c_1
    refine lv_iload_n Γ.1.1 Γ.1.2.1 dX4_mostIn_4 rfl (lv_at hl 1 rfl) ?_
    refine lv_aload_n Γ.1.1 Γ.1.2.1 dX4_mostIn_5 rfl (lv_at hl 0 rfl) ?_
    refine get_X4_most Γ hI gw_152 dX4_mostIn_6 ?_
    refine g_alen Γ hI sh_56 (by decide) (v := (4096 : Int32)) (by decide) dX4_mostIn_9 ?_
    refine lv_icmp_ge (tgt := 22) Γ.1.1 Γ.1.2.1 dX4_mostIn_10 (by decide) (fun c_2 => ?_) (fun c_2 => ?_)
    · replace h := ite_pos c_2 h; clear c_2
      refine lv_iconst (v := (0 : Int32)) Γ.1.1 Γ.1.2.1 dX4_mostIn_22 (by decide) ?_
      exact g_iret Γ hI dX4_mostIn_23 rfl (Option.some.inj h)
    · replace h := ite_neg c_2 h; clear c_2
      refine lv_aload_n Γ.1.1 Γ.1.2.1 dX4_mostIn_13 rfl (lv_at hl 0 rfl) ?_
      refine get_X4_most Γ hI gw_152 dX4_mostIn_14 ?_
      refine lv_iload_n Γ.1.1 Γ.1.2.1 dX4_mostIn_17 rfl (lv_at hl 1 rfl) ?_
      obtain ⟨hb_3, h⟩ := bnd_some h
      refine g_iald Γ hI sh_56 hb_3 dX4_mostIn_18 ?_
      refine lv_goto (tgt := 23) Γ.1.1 Γ.1.2.1 dX4_mostIn_19 (by decide) ?_
      exact g_iret Γ hI dX4_mostIn_23 rfl (Option.some.inj h)
set_option maxRecDepth 20000 in
set_option maxHeartbeats 4000000 in
theorem S_X8_startOf (l : Launch) (X : GX) (σ : GM) (v1 : Int32) (x : Int32) (h : f_X8_startOf σ v1 = some x) : gMet l yX8_startOf cX8_startOf 2 (some .int) ({ frames := 0, cells := 0, slots := 0, locals := 0 } : Room) X σ [.ref (X.2.1 + 49), .int v1] (gQi X σ x) := by
  unfold f_X8_startOf at h
  refine gMet_of (lv := [(0, .ref (X.2.1 + 49)), (1, .int v1)]) (by decide) rfl (Nat.le_of_ble_eq_true rfl) rfl (fun p e s m below meth c H ls Γ hI hl => ?_)
  refine lv_iload_n Γ.1.1 Γ.1.2.1 dX8_startOf_0 rfl (lv_at hl 1 rfl) ?_
  refine lv_if_lt (tgt := 22) Γ.1.1 Γ.1.2.1 dX8_startOf_1 (by decide) (fun c_1 => ?_) (fun c_1 => ?_)
  · replace h := ite_pos c_1 h; clear c_1
    refine lv_aload_n Γ.1.1 Γ.1.2.1 dX8_startOf_22 rfl (lv_at hl 0 rfl) ?_
    refine get_X8_many Γ hI gw_28 dX8_startOf_23 ?_
    exact g_iret Γ hI dX8_startOf_26 rfl (Option.some.inj h)
  · replace h := ite_neg c_1 h; clear c_1
    refine lv_iload_n Γ.1.1 Γ.1.2.1 dX8_startOf_4 rfl (lv_at hl 1 rfl) ?_
    refine lv_aload_n Γ.1.1 Γ.1.2.1 dX8_startOf_5 rfl (lv_at hl 0 rfl) ?_
    refine get_X8_starts Γ hI gw_127 dX8_startOf_6 ?_
    refine g_alen Γ hI sh_54 (by decide) (v := (12 : Int32)) (by decide) dX8_startOf_9 ?_
    refine lv_icmp_ge (tgt := 22) Γ.1.1 Γ.1.2.1 dX8_startOf_10 (by decide) (fun c_2 => ?_) (fun c_2 => ?_)
    · replace h := ite_pos c_2 h; clear c_2
      refine lv_aload_n Γ.1.1 Γ.1.2.1 dX8_startOf_22 rfl (lv_at hl 0 rfl) ?_
      refine get_X8_many Γ hI gw_28 dX8_startOf_23 ?_
      exact g_iret Γ hI dX8_startOf_26 rfl (Option.some.inj h)
    · replace h := ite_neg c_2 h; clear c_2
      refine lv_aload_n Γ.1.1 Γ.1.2.1 dX8_startOf_13 rfl (lv_at hl 0 rfl) ?_
      refine get_X8_starts Γ hI gw_127 dX8_startOf_14 ?_
      refine lv_iload_n Γ.1.1 Γ.1.2.1 dX8_startOf_17 rfl (lv_at hl 1 rfl) ?_
      obtain ⟨hb_3, h⟩ := bnd_some h
      refine g_iald Γ hI sh_54 hb_3 dX8_startOf_18 ?_
      refine lv_goto (tgt := 26) Γ.1.1 Γ.1.2.1 dX8_startOf_19 (by decide) ?_
      exact g_iret Γ hI dX8_startOf_26 rfl (Option.some.inj h)
set_option maxRecDepth 20000 in
set_option maxHeartbeats 4000000 in
theorem s_X4_mostWithLowest_L32 {p : Program} {l : Launch} {e : Env} {s : State} {m : MethodId} {args : Array Value} {below : List Frame} {meth : Method} {c : Code} {X : GX} (σ : GM) (x : Int32) (Γ : gC X p m meth c cX4_mostWithLowest 8 s args RX4 (some .int)) (v1 : Int32) (v5 : Int32) :
    ∀ (k : Nat) (v4 : Int32) (v6 : Int32) (H : Heap) (locs : List Loc) (ls : Array Slot), gI X σ s H locs → lv_has ls 8 [(0, .ref (X.2.1 + 55)), (1, .int v1), (2, .ref (X.2.1 + 49)), (4, .int v4), (5, .int v5), (6, .int v6)] → f_X4_mostWithLowest_L32 σ v1 v5 k v4 v6 = some x →
    W p l e ({ frames := 2, cells := 0, slots := 0, locals := 40 } : Room) s m args below meth c H locs 0 0 (MQ below (gQi X σ x) args s 0 0 (gA X)) (F0 m 32 ls []) := by
  intro k
  induction k with
  | zero =>
    intro v4 v6 H locs ls hI hl h
    exact absurd h (by simp [f_X4_mostWithLowest_L32])
  | succ k ih =>
    intro v4 v6 H locs ls hI hl h
    unfold f_X4_mostWithLowest_L32 at h
    refine lv_iload Γ.1.1 Γ.1.2.1 dX4_mostWithLowest_32 (lv_at hl 5 rfl) ?_
    refine lv_iload Γ.1.1 Γ.1.2.1 dX4_mostWithLowest_34 (lv_at hl 4 rfl) ?_
    refine lv_icmp_ge (tgt := 81) Γ.1.1 Γ.1.2.1 dX4_mostWithLowest_36 (by decide) (fun c_9 => ?_) (fun c_9 => ?_)
    · replace h := ite_pos c_9 h; clear c_9
      refine lv_iload Γ.1.1 Γ.1.2.1 dX4_mostWithLowest_81 (lv_at hl 3 rfl) ?_
      exact g_iret Γ hI dX4_mostWithLowest_83 rfl (Option.some.inj h)
    · replace h := ite_neg c_9 h; clear c_9
      refine lv_aload_n Γ.1.1 Γ.1.2.1 dX4_mostWithLowest_39 rfl (lv_at hl 2 rfl) ?_
      refine lv_iload Γ.1.1 Γ.1.2.1 dX4_mostWithLowest_40 (lv_at hl 5 rfl) ?_
      obtain ⟨r_10, hr_10, h⟩ := ob_some h
      refine g_ci Γ hI (g_runV (As := [.int v6]) Γ hI (S_X8_ringAt l X σ v6 r_10 hr_10) mf_X8_ringAt (recv_X8 Γ hI) gw_156 rfl rfl ⟨Nat.le_of_ble_eq_true rfl, Nat.le_of_ble_eq_true rfl⟩ rfl hl.1 rfl (Nat.le_of_ble_eq_true rfl) dX4_mostWithLowest_42 ⟨Nat.zero_le _, Nat.zero_le _⟩) (fun H locs hI => ?_)
      clear hr_10
      refine lv_istore (lv' := [(7, .int r_10), (0, .ref (X.2.1 + 55)), (1, .int v1), (2, .ref (X.2.1 + 49)), (4, .int v4), (5, .int v5), (6, .int v6)]) Γ.1.1 Γ.1.2.1 dX4_mostWithLowest_45 hl (by decide) rfl (fun ls hl => ?_)
      refine lv_iload Γ.1.1 Γ.1.2.1 dX4_mostWithLowest_47 (lv_at hl 0 rfl) ?_
      refine lv_iload_n Γ.1.1 Γ.1.2.1 dX4_mostWithLowest_49 rfl (lv_at hl 2 rfl) ?_
      refine lv_iconst (v := (-1 : Int32)) Γ.1.1 Γ.1.2.1 dX4_mostWithLowest_50 (by decide) ?_
      refine lv_ixor Γ.1.1 Γ.1.2.1 dX4_mostWithLowest_51 ?_
      refine lv_iand Γ.1.1 Γ.1.2.1 dX4_mostWithLowest_52 ?_
      refine lv_if_ne (tgt := 75) Γ.1.1 Γ.1.2.1 dX4_mostWithLowest_53 (by decide) (fun c_12 => ?_) (fun c_12 => ?_)
      · replace h := ite_neg c_12 h; clear c_12
        obtain ⟨v6_13, e_v6_13, h⟩ := nm_some h
        refine lv_iinc (v := v6_13) (lv' := [(6, .int v6_13), (7, .int r_10), (0, .ref (X.2.1 + 55)), (1, .int v1), (2, .ref (X.2.1 + 49)), (4, .int v4), (5, .int v5)]) Γ.1.1 Γ.1.2.1 dX4_mostWithLowest_75 hl (k := 6) rfl (by rw [e_v6_13]; rfl) (by decide) rfl (fun ls hl => ?_)
        clear e_v6_13
        refine lv_goto (tgt := 32) Γ.1.1 Γ.1.2.1 dX4_mostWithLowest_78 (by decide) ?_
        exact ih v4 v6_13 _ _ _ hI (lv_sub hl [2, 3, 4, 5, 6, 0] rfl) h
      · replace h := ite_pos c_12 h; clear c_12
        refine lv_iload Γ.1.1 Γ.1.2.1 dX4_mostWithLowest_56 (lv_at hl 4 rfl) ?_
        refine lv_iconst (v := (1 : Int32)) Γ.1.1 Γ.1.2.1 dX4_mostWithLowest_58 (by decide) ?_
        refine lv_aload_n Γ.1.1 Γ.1.2.1 dX4_mostWithLowest_59 rfl (lv_at hl 1 rfl) ?_
        refine lv_iload_n Γ.1.1 Γ.1.2.1 dX4_mostWithLowest_60 rfl (lv_at hl 2 rfl) ?_
        refine lv_iload Γ.1.1 Γ.1.2.1 dX4_mostWithLowest_61 (lv_at hl 0 rfl) ?_
        refine lv_iconst (v := (-1 : Int32)) Γ.1.1 Γ.1.2.1 dX4_mostWithLowest_63 (by decide) ?_
        refine lv_ixor Γ.1.1 Γ.1.2.1 dX4_mostWithLowest_64 ?_
        refine lv_iand Γ.1.1 Γ.1.2.1 dX4_mostWithLowest_65 ?_
        obtain ⟨r_14, hr_14, h⟩ := ob_some h
        refine g_ci Γ hI (g_runV (As := [.int (v1 &&& (r_10 ^^^ (-1 : Int32)))]) Γ hI (S_X4_mostIn l X σ (v1 &&& (r_10 ^^^ (-1 : Int32))) r_14 hr_14) mf_X4_mostIn (recv_X4 Γ hI) gw_154 rfl rfl ⟨Nat.le_of_ble_eq_true rfl, Nat.le_of_ble_eq_true rfl⟩ rfl hl.1 rfl (Nat.le_of_ble_eq_true rfl) dX4_mostWithLowest_66 ⟨Nat.zero_le _, Nat.zero_le _⟩) (fun H locs hI => ?_)
        clear hr_14
        refine lv_iadd Γ.1.1 Γ.1.2.1 dX4_mostWithLowest_69 ?_
        refine va_mmax Γ.1.1 Γ.1.2.1 (Γ.1.2.2.1.trans hl.1.symm) Γ.1.2.2.2.1 (Γ.1.2.2.2.2 _ gw_157) (Γ.1.2.2.2.2 _ gw_158) (Γ.1.2.2.2.2 _ gw_35) (Γ.1.2.2.2.2 _ gw_159) (Nat.le_of_ble_eq_true rfl) (Nat.le_of_ble_eq_true rfl) (Nat.zero_le _) (Nat.zero_le _) dX4_mostWithLowest_70 ?_
        refine lv_topi (fun v4_16 e_v4_16 => ?_)
        replace h := nm_at e_v4_16 h; clear e_v4_16
        refine lv_istore (lv' := [(4, .int v4_16), (7, .int r_10), (0, .ref (X.2.1 + 55)), (1, .int v1), (2, .ref (X.2.1 + 49)), (5, .int v5), (6, .int v6)]) Γ.1.1 Γ.1.2.1 dX4_mostWithLowest_73 hl (by decide) rfl (fun ls hl => ?_)
        obtain ⟨v6_17, e_v6_17, h⟩ := nm_some h
        refine lv_iinc (v := v6_17) (lv' := [(6, .int v6_17), (4, .int v4_16), (7, .int r_10), (0, .ref (X.2.1 + 55)), (1, .int v1), (2, .ref (X.2.1 + 49)), (5, .int v5)]) Γ.1.1 Γ.1.2.1 dX4_mostWithLowest_75 hl (k := 6) rfl (by rw [e_v6_17]; rfl) (by decide) rfl (fun ls hl => ?_)
        clear e_v6_17
        refine lv_goto (tgt := 32) Γ.1.1 Γ.1.2.1 dX4_mostWithLowest_78 (by decide) ?_
        exact ih v4_16 v6_17 _ _ _ hI (lv_sub hl [3, 4, 5, 1, 6, 0] rfl) h
set_option maxRecDepth 20000 in
set_option maxHeartbeats 4000000 in
theorem S_X4_mostWithLowest (l : Launch) (X : GX) (σ : GM) (v1 : Int32) (x : Int32) (h : f_X4_mostWithLowest σ v1 = some x) : gMet l yX4_mostWithLowest cX4_mostWithLowest 8 (some .int) ({ frames := 2, cells := 0, slots := 0, locals := 40 } : Room) X σ [.ref (X.2.1 + 55), .int v1, .ref (X.2.1 + 49)] (gQi X σ x) := by
  unfold f_X4_mostWithLowest at h
  refine gMet_of (lv := [(0, .ref (X.2.1 + 55)), (1, .int v1), (2, .ref (X.2.1 + 49))]) (by decide) rfl (Nat.le_of_ble_eq_true rfl) rfl (fun p e s m below meth c H ls Γ hI hl => ?_)
  refine lv_iload_n Γ.1.1 Γ.1.2.1 dX4_mostWithLowest_0 rfl (lv_at hl 1 rfl) ?_
  obtain ⟨r_1, hr_1, h⟩ := ob_some h
  refine g_ci Γ hI (g_runS (As := [.int v1]) Γ hI (S_X8_lowest l X σ v1 r_1 hr_1) mf_X8_lowest gw_153 rfl rfl ⟨Nat.le_of_ble_eq_true rfl, Nat.le_of_ble_eq_true rfl⟩ rfl hl.1 rfl (Nat.le_of_ble_eq_true rfl) dX4_mostWithLowest_1 ⟨Nat.zero_le _, Nat.zero_le _⟩) (fun H locs hI => ?_)
  clear hr_1
  refine lv_istore_n (lv' := [(3, .int r_1), (0, .ref (X.2.1 + 55)), (1, .int v1), (2, .ref (X.2.1 + 49))]) Γ.1.1 Γ.1.2.1 dX4_mostWithLowest_4 rfl hl (by decide) rfl (fun ls hl => ?_)
  refine lv_aload_n Γ.1.1 Γ.1.2.1 dX4_mostWithLowest_5 rfl (lv_at hl 1 rfl) ?_
  refine lv_iload_n Γ.1.1 Γ.1.2.1 dX4_mostWithLowest_6 rfl (lv_at hl 2 rfl) ?_
  refine lv_iload_n Γ.1.1 Γ.1.2.1 dX4_mostWithLowest_7 rfl (lv_at hl 2 rfl) ?_
  refine lv_iconst (v := (1 : Int32)) Γ.1.1 Γ.1.2.1 dX4_mostWithLowest_8 (by decide) ?_
  refine lv_isub Γ.1.1 Γ.1.2.1 dX4_mostWithLowest_9 ?_
  refine lv_iand Γ.1.1 Γ.1.2.1 dX4_mostWithLowest_10 ?_
  obtain ⟨r_3, hr_3, h⟩ := ob_some h
  refine g_ci Γ hI (g_runV (As := [.int (v1 &&& (v1 - (1 : Int32)))]) Γ hI (S_X4_mostIn l X σ (v1 &&& (v1 - (1 : Int32))) r_3 hr_3) mf_X4_mostIn (recv_X4 Γ hI) gw_154 rfl rfl ⟨Nat.le_of_ble_eq_true rfl, Nat.le_of_ble_eq_true rfl⟩ rfl hl.1 rfl (Nat.le_of_ble_eq_true rfl) dX4_mostWithLowest_11 ⟨Nat.zero_le _, Nat.zero_le _⟩) (fun H locs hI => ?_)
  clear hr_3
  refine lv_istore (lv' := [(4, .int r_3), (3, .int r_1), (0, .ref (X.2.1 + 55)), (1, .int v1), (2, .ref (X.2.1 + 49))]) Γ.1.1 Γ.1.2.1 dX4_mostWithLowest_14 hl (by decide) rfl (fun ls hl => ?_)
  refine lv_aload_n Γ.1.1 Γ.1.2.1 dX4_mostWithLowest_16 rfl (lv_at hl 4 rfl) ?_
  refine lv_iload_n Γ.1.1 Γ.1.2.1 dX4_mostWithLowest_17 rfl (lv_at hl 1 rfl) ?_
  refine lv_iconst (v := (1 : Int32)) Γ.1.1 Γ.1.2.1 dX4_mostWithLowest_18 (by decide) ?_
  refine lv_iadd Γ.1.1 Γ.1.2.1 dX4_mostWithLowest_19 ?_
  obtain ⟨r_5, hr_5, h⟩ := ob_some h
  refine g_ci Γ hI (g_runV (As := [.int (r_1 + (1 : Int32))]) Γ hI (S_X8_startOf l X σ (r_1 + (1 : Int32)) r_5 hr_5) mf_X8_startOf (recv_X8 Γ hI) gw_155 rfl rfl ⟨Nat.le_of_ble_eq_true rfl, Nat.le_of_ble_eq_true rfl⟩ rfl hl.1 rfl (Nat.le_of_ble_eq_true rfl) dX4_mostWithLowest_20 ⟨Nat.zero_le _, Nat.zero_le _⟩) (fun H locs hI => ?_)
  clear hr_5
  refine lv_istore (lv' := [(5, .int r_5), (4, .int r_3), (3, .int r_1), (0, .ref (X.2.1 + 55)), (1, .int v1), (2, .ref (X.2.1 + 49))]) Γ.1.1 Γ.1.2.1 dX4_mostWithLowest_23 hl (by decide) rfl (fun ls hl => ?_)
  refine lv_aload_n Γ.1.1 Γ.1.2.1 dX4_mostWithLowest_25 rfl (lv_at hl 5 rfl) ?_
  refine lv_iload_n Γ.1.1 Γ.1.2.1 dX4_mostWithLowest_26 rfl (lv_at hl 2 rfl) ?_
  obtain ⟨r_7, hr_7, h⟩ := ob_some h
  refine g_ci Γ hI (g_runV (As := [.int r_1]) Γ hI (S_X8_startOf l X σ r_1 r_7 hr_7) mf_X8_startOf (recv_X8 Γ hI) gw_155 rfl rfl ⟨Nat.le_of_ble_eq_true rfl, Nat.le_of_ble_eq_true rfl⟩ rfl hl.1 rfl (Nat.le_of_ble_eq_true rfl) dX4_mostWithLowest_27 ⟨Nat.zero_le _, Nat.zero_le _⟩) (fun H locs hI => ?_)
  clear hr_7
  refine lv_istore (lv' := [(6, .int r_7), (5, .int r_5), (4, .int r_3), (3, .int r_1), (0, .ref (X.2.1 + 55)), (1, .int v1), (2, .ref (X.2.1 + 49))]) Γ.1.1 Γ.1.2.1 dX4_mostWithLowest_30 hl (by decide) rfl (fun ls hl => ?_)
  exact s_X4_mostWithLowest_L32 σ x Γ v1 r_5 _ r_3 r_7 _ _ _ hI (lv_sub hl [4, 5, 6, 2, 1, 0] rfl) h
set_option maxRecDepth 20000 in
set_option maxHeartbeats 4000000 in
theorem s_X4_learn_L2 {p : Program} {l : Launch} {e : Env} {s : State} {m : MethodId} {args : Array Value} {below : List Frame} {meth : Method} {c : Code} {X : GX} (σr : GM) (Γ : gC X p m meth c cX4_learn 4 s args RX4 none) (v1 : Int32) :
    ∀ (k : Nat) (σ : GM) (v3 : Int32) (H : Heap) (locs : List Loc) (ls : Array Slot), gI X σ s H locs → lv_has ls 4 [(0, .ref (X.2.1 + 55)), (1, .int v1), (2, .ref (X.2.1 + 49)), (3, .int v3)] → f_X4_learn_L2 v1 k σ v3 = some σr →
    W p l e ({ frames := 3, cells := 0, slots := 0, locals := 67 } : Room) s m args below meth c H locs 0 0 (MQ below (gQv X σr) args s 0 0 (gA X)) (F0 m 2 ls []) := by
  intro k
  induction k with
  | zero =>
    intro σ v3 H locs ls hI hl h
    exact absurd h (by simp [f_X4_learn_L2])
  | succ k ih =>
    intro σ v3 H locs ls hI hl h
    unfold f_X4_learn_L2 at h
    refine lv_iload_n Γ.1.1 Γ.1.2.1 dX4_learn_2 rfl (lv_at hl 3 rfl) ?_
    refine lv_iload_n Γ.1.1 Γ.1.2.1 dX4_learn_3 rfl (lv_at hl 1 rfl) ?_
    refine lv_icmp_gt (tgt := 50) Γ.1.1 Γ.1.2.1 dX4_learn_4 (by decide) (fun c_1 => ?_) (fun c_1 => ?_)
    · replace h := ite_pos c_1 h; clear c_1
      exact g_vret Γ hI dX4_learn_50 (Option.some.inj h)
    · replace h := ite_neg c_1 h; clear c_1
      refine lv_iload_n Γ.1.1 Γ.1.2.1 dX4_learn_7 rfl (lv_at hl 3 rfl) ?_
      refine lv_aload_n Γ.1.1 Γ.1.2.1 dX4_learn_8 rfl (lv_at hl 0 rfl) ?_
      refine get_X4_most Γ hI gw_152 dX4_learn_9 ?_
      refine g_alen Γ hI sh_56 (by decide) (v := (4096 : Int32)) (by decide) dX4_learn_12 ?_
      refine lv_icmp_ge (tgt := 50) Γ.1.1 Γ.1.2.1 dX4_learn_13 (by decide) (fun c_2 => ?_) (fun c_2 => ?_)
      · replace h := ite_pos c_2 h; clear c_2
        exact g_vret Γ hI dX4_learn_50 (Option.some.inj h)
      · replace h := ite_neg c_2 h; clear c_2
        refine lv_iload_n Γ.1.1 Γ.1.2.1 dX4_learn_16 rfl (lv_at hl 3 rfl) ?_
        refine lv_iload_n Γ.1.1 Γ.1.2.1 dX4_learn_17 rfl (lv_at hl 1 rfl) ?_
        refine lv_iconst (v := (-1 : Int32)) Γ.1.1 Γ.1.2.1 dX4_learn_18 (by decide) ?_
        refine lv_ixor Γ.1.1 Γ.1.2.1 dX4_learn_19 ?_
        refine lv_iand Γ.1.1 Γ.1.2.1 dX4_learn_20 ?_
        refine lv_if_ne (tgt := 44) Γ.1.1 Γ.1.2.1 dX4_learn_21 (by decide) (fun c_3 => ?_) (fun c_3 => ?_)
        · replace h := ite_neg c_3 h; clear c_3
          obtain ⟨v3_4, e_v3_4, h⟩ := nm_some h
          refine lv_iinc (v := v3_4) (lv' := [(3, .int v3_4), (0, .ref (X.2.1 + 55)), (1, .int v1), (2, .ref (X.2.1 + 49))]) Γ.1.1 Γ.1.2.1 dX4_learn_44 hl (k := 3) rfl (by rw [e_v3_4]; rfl) (by decide) rfl (fun ls hl => ?_)
          clear e_v3_4
          refine lv_goto (tgt := 2) Γ.1.1 Γ.1.2.1 dX4_learn_47 (by decide) ?_
          exact ih σ v3_4 _ _ _ hI (lv_sub hl [1, 2, 3, 0] rfl) h
        · replace h := ite_pos c_3 h; clear c_3
          refine lv_aload_n Γ.1.1 Γ.1.2.1 dX4_learn_24 rfl (lv_at hl 0 rfl) ?_
          refine get_X4_most Γ hI gw_152 dX4_learn_25 ?_
          refine lv_iload_n Γ.1.1 Γ.1.2.1 dX4_learn_28 rfl (lv_at hl 3 rfl) ?_
          refine lv_iload_n Γ.1.1 Γ.1.2.1 dX4_learn_29 rfl (lv_at hl 3 rfl) ?_
          refine lv_if_ne (tgt := 37) Γ.1.1 Γ.1.2.1 dX4_learn_30 (by decide) (fun c_5 => ?_) (fun c_5 => ?_)
          · replace h := ite_neg c_5 h; clear c_5
            refine lv_aload_n Γ.1.1 Γ.1.2.1 dX4_learn_37 rfl (lv_at hl 0 rfl) ?_
            refine lv_iload_n Γ.1.1 Γ.1.2.1 dX4_learn_38 rfl (lv_at hl 3 rfl) ?_
            refine lv_aload_n Γ.1.1 Γ.1.2.1 dX4_learn_39 rfl (lv_at hl 2 rfl) ?_
            obtain ⟨r_6, hr_6, h⟩ := ob_some h
            refine g_ci Γ hI (g_runV (As := [.int v3, .ref (X.2.1 + 49)]) Γ hI (S_X4_mostWithLowest l X σ v3 r_6 hr_6) mf_X4_mostWithLowest (recv_X4 Γ hI) gw_160 rfl rfl ⟨Nat.le_of_ble_eq_true rfl, Nat.le_of_ble_eq_true rfl⟩ rfl hl.1 rfl (Nat.le_of_ble_eq_true rfl) dX4_learn_40 ⟨Nat.zero_le _, Nat.zero_le _⟩) (fun H locs hI => ?_)
            clear hr_6
            obtain ⟨hb_8, h⟩ := bnd_some h
            refine g_iast Γ hI sh_56 hb_8 dX4_learn_43 (fun H locs hI => ?_)
            obtain ⟨σ_9, e_m_9, h⟩ := nm_some h
            rw [← e_m_9] at hI; clear e_m_9
            obtain ⟨v3_10, e_v3_10, h⟩ := nm_some h
            refine lv_iinc (v := v3_10) (lv' := [(3, .int v3_10), (0, .ref (X.2.1 + 55)), (1, .int v1), (2, .ref (X.2.1 + 49))]) Γ.1.1 Γ.1.2.1 dX4_learn_44 hl (k := 3) rfl (by rw [e_v3_10]; rfl) (by decide) rfl (fun ls hl => ?_)
            clear e_v3_10
            refine lv_goto (tgt := 2) Γ.1.1 Γ.1.2.1 dX4_learn_47 (by decide) ?_
            exact ih σ_9 v3_10 _ _ _ hI (lv_sub hl [1, 2, 3, 0] rfl) h
          · replace h := ite_pos c_5 h; clear c_5
            refine lv_iconst (v := (0 : Int32)) Γ.1.1 Γ.1.2.1 dX4_learn_33 (by decide) ?_
            refine lv_goto (tgt := 43) Γ.1.1 Γ.1.2.1 dX4_learn_34 (by decide) ?_
            obtain ⟨hb_11, h⟩ := bnd_some h
            refine g_iast Γ hI sh_56 hb_11 dX4_learn_43 (fun H locs hI => ?_)
            obtain ⟨σ_12, e_m_12, h⟩ := nm_some h
            rw [← e_m_12] at hI; clear e_m_12
            obtain ⟨v3_13, e_v3_13, h⟩ := nm_some h
            refine lv_iinc (v := v3_13) (lv' := [(3, .int v3_13), (0, .ref (X.2.1 + 55)), (1, .int v1), (2, .ref (X.2.1 + 49))]) Γ.1.1 Γ.1.2.1 dX4_learn_44 hl (k := 3) rfl (by rw [e_v3_13]; rfl) (by decide) rfl (fun ls hl => ?_)
            clear e_v3_13
            refine lv_goto (tgt := 2) Γ.1.1 Γ.1.2.1 dX4_learn_47 (by decide) ?_
            exact ih σ_12 v3_13 _ _ _ hI (lv_sub hl [1, 2, 3, 0] rfl) h
set_option maxRecDepth 20000 in
set_option maxHeartbeats 4000000 in
theorem S_X4_learn (l : Launch) (X : GX) (σ : GM) (v1 : Int32) (σr : GM) (h : f_X4_learn σ v1 = some σr) : gMet l yX4_learn cX4_learn 4 none ({ frames := 3, cells := 0, slots := 0, locals := 67 } : Room) X σ [.ref (X.2.1 + 55), .int v1, .ref (X.2.1 + 49)] (gQv X σr) := by
  unfold f_X4_learn at h
  refine gMet_of (lv := [(0, .ref (X.2.1 + 55)), (1, .int v1), (2, .ref (X.2.1 + 49))]) (by decide) rfl (Nat.le_of_ble_eq_true rfl) rfl (fun p e s m below meth c H ls Γ hI hl => ?_)
  refine lv_iconst (v := (0 : Int32)) Γ.1.1 Γ.1.2.1 dX4_learn_0 (by decide) ?_
  refine lv_istore_n (lv' := [(3, .int (0 : Int32)), (0, .ref (X.2.1 + 55)), (1, .int v1), (2, .ref (X.2.1 + 49))]) Γ.1.1 Γ.1.2.1 dX4_learn_1 rfl hl (by decide) rfl (fun ls hl => ?_)
  exact s_X4_learn_L2 σr Γ v1 _ σ (0 : Int32) _ _ _ hI (lv_sub hl [1, 2, 3, 0] rfl) h
set_option maxRecDepth 20000 in
set_option maxHeartbeats 4000000 in
theorem S_X11_packingNow (l : Launch) (X : GX) (σ : GM) (σr : GM) (h : f_X11_packingNow σ = some σr) : gMet l yX11_packingNow cX11_packingNow 1 (some (.object "RingCutters$Packing")) ({ frames := 5, cells := 0, slots := 0, locals := 110 } : Room) X σ [.ref (X.2.1 + 0)] (gQq X σr (some 55)) := by
  unfold f_X11_packingNow at h
  refine gMet_of (lv := [(0, .ref (X.2.1 + 0))]) (by decide) rfl (Nat.le_of_ble_eq_true rfl) rfl (fun p e s m below meth c H ls Γ hI hl => ?_)
  refine lv_aload_n Γ.1.1 Γ.1.2.1 dX11_packingNow_0 rfl (lv_at hl 0 rfl) ?_
  refine get_X11_packingStale Γ hI gw_101 dX11_packingNow_1 ?_
  refine lv_if_eq (tgt := 30) Γ.1.1 Γ.1.2.1 dX11_packingNow_4 (by decide) (fun c_1 => ?_) (fun c_1 => ?_)
  · replace h := ite_pos c_1 h; clear c_1
    refine lv_aload_n Γ.1.1 Γ.1.2.1 dX11_packingNow_30 rfl (lv_at hl 0 rfl) ?_
    refine get_X11_packing Γ hI gw_161 dX11_packingNow_31 ?_
    exact g_aret (x := some 55) rfl Γ hI dX11_packingNow_34 (Option.some.inj h) rfl
  · replace h := ite_neg c_1 h; clear c_1
    refine lv_aload_n Γ.1.1 Γ.1.2.1 dX11_packingNow_7 rfl (lv_at hl 0 rfl) ?_
    refine get_X11_packing Γ hI gw_161 dX11_packingNow_8 ?_
    refine lv_aload_n Γ.1.1 Γ.1.2.1 dX11_packingNow_11 rfl (lv_at hl 0 rfl) ?_
    refine get_X11_net Γ hI gw_106 dX11_packingNow_12 ?_
    refine get_X3_there sh_8 Γ hI gw_115 dX11_packingNow_15 ?_
    refine lv_aload_n Γ.1.1 Γ.1.2.1 dX11_packingNow_18 rfl (lv_at hl 0 rfl) ?_
    obtain ⟨σ_3, hr_2, h⟩ := ob_some h
    refine g_cr Γ hI (g_runV (As := []) Γ hI (S_X11_ringsNow l X σ σ_3 hr_2) mf_X11_ringsNow (recv_X11 Γ hI) gw_138 rfl rfl ⟨Nat.le_of_ble_eq_true rfl, Nat.le_of_ble_eq_true rfl⟩ rfl hl.1 rfl (Nat.le_of_ble_eq_true rfl) dX11_packingNow_19 ⟨Nat.zero_le _, Nat.zero_le _⟩) (fun H locs hI => ?_)
    clear hr_2
    obtain ⟨σ_5, hr_4, h⟩ := ob_some h
    refine g_cv Γ hI (g_runV (As := [.int (σ.1 8 3), .ref (X.2.1 + 49)]) Γ hI (S_X4_learn l X σ_3 (σ.1 8 3) σ_5 hr_4) mf_X4_learn (recv_X4 Γ hI) gw_162 rfl rfl ⟨Nat.le_of_ble_eq_true rfl, Nat.le_of_ble_eq_true rfl⟩ rfl hl.1 rfl (Nat.le_of_ble_eq_true rfl) dX11_packingNow_22 ⟨Nat.zero_le _, Nat.zero_le _⟩) (fun H locs hI => ?_)
    clear hr_4
    refine lv_aload_n Γ.1.1 Γ.1.2.1 dX11_packingNow_25 rfl (lv_at hl 0 rfl) ?_
    refine lv_iconst (v := (0 : Int32)) Γ.1.1 Γ.1.2.1 dX11_packingNow_26 (by decide) ?_
    refine put_X11_packingStale Γ hI (by decide) (by decide) gw_101 dX11_packingNow_27 (fun H locs hI => ?_)
    obtain ⟨σ_6, e_m_6, h⟩ := nm_some h
    rw [← e_m_6] at hI; clear e_m_6
    refine lv_aload_n Γ.1.1 Γ.1.2.1 dX11_packingNow_30 rfl (lv_at hl 0 rfl) ?_
    refine get_X11_packing Γ hI gw_161 dX11_packingNow_31 ?_
    exact g_aret (x := some 55) rfl Γ hI dX11_packingNow_34 (Option.some.inj h) rfl
set_option maxRecDepth 20000 in
set_option maxHeartbeats 4000000 in
theorem S_X11_packed (l : Launch) (X : GX) (σ : GM) (σr : GM) (x : Int32) (h : f_X11_packed σ = some (σr, x)) : gMet l yX11_packed cX11_packed 1 (some .int) ({ frames := 6, cells := 0, slots := 0, locals := 130 } : Room) X σ [.ref (X.2.1 + 0)] (gQi X σr x) := by
  unfold f_X11_packed at h
  refine gMet_of (lv := [(0, .ref (X.2.1 + 0))]) (by decide) rfl (Nat.le_of_ble_eq_true rfl) rfl (fun p e s m below meth c H ls Γ hI hl => ?_)
  refine lv_aload_n Γ.1.1 Γ.1.2.1 dX11_packed_0 rfl (lv_at hl 0 rfl) ?_
  obtain ⟨σ_2, hr_1, h⟩ := ob_some h
  refine g_cr Γ hI (g_runV (As := []) Γ hI (S_X11_packingNow l X σ σ_2 hr_1) mf_X11_packingNow (recv_X11 Γ hI) gw_163 rfl rfl ⟨Nat.le_of_ble_eq_true rfl, Nat.le_of_ble_eq_true rfl⟩ rfl hl.1 rfl (Nat.le_of_ble_eq_true rfl) dX11_packed_1 ⟨Nat.zero_le _, Nat.zero_le _⟩) (fun H locs hI => ?_)
  clear hr_1
  refine lv_aload_n Γ.1.1 Γ.1.2.1 dX11_packed_4 rfl (lv_at hl 0 rfl) ?_
  refine get_X11_net Γ hI gw_106 dX11_packed_5 ?_
  refine get_X3_there sh_8 Γ hI gw_115 dX11_packed_8 ?_
  obtain ⟨r_3, hr_3, h⟩ := ob_some h
  refine g_ci Γ hI (g_runV (As := [.int (σ_2.1 8 3)]) Γ hI (S_X4_mostIn l X σ_2 (σ_2.1 8 3) r_3 hr_3) mf_X4_mostIn (recv_X4 Γ hI) gw_164 rfl rfl ⟨Nat.le_of_ble_eq_true rfl, Nat.le_of_ble_eq_true rfl⟩ rfl hl.1 rfl (Nat.le_of_ble_eq_true rfl) dX11_packed_11 ⟨Nat.zero_le _, Nat.zero_le _⟩) (fun H locs hI => ?_)
  clear hr_3
  exact g_iret Γ hI dX11_packed_14 (Prod.mk.inj (Option.some.inj h)).1 (Prod.mk.inj (Option.some.inj h)).2
set_option maxRecDepth 20000 in
set_option maxHeartbeats 4000000 in
theorem s_X4_leastOfMost_L56 {p : Program} {l : Launch} {e : Env} {s : State} {m : MethodId} {args : Array Value} {below : List Frame} {meth : Method} {c : Code} {X : GX} (σ : GM) (x : Int32) (Γ : gC X p m meth c cX4_leastOfMost 7 s args RX4 (some .int)) (v1 : Int32) (k5 : Int32 → Int32 → Option Int32) (hk5 : ∀ (v3 : Int32) (v4 : Int32) (H : Heap) (locs : List Loc) (ls : Array Slot), gI X σ s H locs → lv_has ls 7 [(0, .ref (X.2.1 + 55)), (1, .int v1), (2, .ref (X.2.1 + 49)), (3, .int v3), (4, .int v4)] → k5 v3 v4 = some x → W p l e ({ frames := 1, cells := 0, slots := 0, locals := 21 } : Room) s m args below meth c H locs 0 0 (MQ below (gQi X σ x) args s 0 0 (gA X)) (F0 m 5 ls [])) :
    ∀ (v3 : Int32) (v4 : Int32) (v5 : Int32) (s0 : Int32) (H : Heap) (locs : List Loc) (ls : Array Slot), gI X σ s H locs → lv_has ls 7 [(0, .ref (X.2.1 + 55)), (1, .int v1), (2, .ref (X.2.1 + 49)), (3, .int v3), (4, .int v4), (5, .int v5)] → f_X4_leastOfMost_L56 σ k5 v1 v3 v4 v5 s0 = some x →
    W p l e ({ frames := 1, cells := 0, slots := 0, locals := 21 } : Room) s m args below meth c H locs 0 0 (MQ below (gQi X σ x) args s 0 0 (gA X)) (F0 m 56 ls [.int s0]) := by
  intro v3 v4 v5 s0 H locs ls hI hl h
  unfold f_X4_leastOfMost_L56 at h
  refine lv_istore (lv' := [(6, .int s0), (0, .ref (X.2.1 + 55)), (1, .int v1), (2, .ref (X.2.1 + 49)), (3, .int v3), (4, .int v4), (5, .int v5)]) Γ.1.1 Γ.1.2.1 dX4_leastOfMost_56 hl (by decide) rfl (fun ls hl => ?_)
  refine lv_iload Γ.1.1 Γ.1.2.1 dX4_leastOfMost_58 (lv_at hl 0 rfl) ?_
  refine lv_if_eq (tgt := 76) Γ.1.1 Γ.1.2.1 dX4_leastOfMost_60 (by decide) (fun c_5 => ?_) (fun c_5 => ?_)
  · replace h := ite_pos c_5 h; clear c_5
    obtain ⟨v4_6, e_v4_6, h⟩ := nm_some h
    refine lv_iinc (v := v4_6) (lv' := [(4, .int v4_6), (6, .int s0), (0, .ref (X.2.1 + 55)), (1, .int v1), (2, .ref (X.2.1 + 49)), (3, .int v3), (5, .int v5)]) Γ.1.1 Γ.1.2.1 dX4_leastOfMost_76 hl (k := 5) rfl (by rw [e_v4_6]; rfl) (by decide) rfl (fun ls hl => ?_)
    clear e_v4_6
    refine lv_goto (tgt := 5) Γ.1.1 Γ.1.2.1 dX4_leastOfMost_79 (by decide) ?_
    exact hk5 v3 v4_6 _ _ _ hI (lv_sub hl [2, 3, 4, 5, 0] rfl) h
  · replace h := ite_neg c_5 h; clear c_5
    refine lv_iload_n Γ.1.1 Γ.1.2.1 dX4_leastOfMost_63 rfl (lv_at hl 4 rfl) ?_
    refine lv_if_eq (tgt := 73) Γ.1.1 Γ.1.2.1 dX4_leastOfMost_64 (by decide) (fun c_7 => ?_) (fun c_7 => ?_)
    · replace h := ite_pos c_7 h; clear c_7
      refine lv_iload Γ.1.1 Γ.1.2.1 dX4_leastOfMost_73 (lv_at hl 6 rfl) ?_
      refine lv_istore_n (lv' := [(3, .int v5), (6, .int s0), (0, .ref (X.2.1 + 55)), (1, .int v1), (2, .ref (X.2.1 + 49)), (4, .int v4), (5, .int v5)]) Γ.1.1 Γ.1.2.1 dX4_leastOfMost_75 rfl hl (by decide) rfl (fun ls hl => ?_)
      obtain ⟨v4_8, e_v4_8, h⟩ := nm_some h
      refine lv_iinc (v := v4_8) (lv' := [(4, .int v4_8), (3, .int v5), (6, .int s0), (0, .ref (X.2.1 + 55)), (1, .int v1), (2, .ref (X.2.1 + 49)), (5, .int v5)]) Γ.1.1 Γ.1.2.1 dX4_leastOfMost_76 hl (k := 5) rfl (by rw [e_v4_8]; rfl) (by decide) rfl (fun ls hl => ?_)
      clear e_v4_8
      refine lv_goto (tgt := 5) Γ.1.1 Γ.1.2.1 dX4_leastOfMost_79 (by decide) ?_
      exact hk5 v5 v4_8 _ _ _ hI (lv_sub hl [3, 4, 5, 1, 0] rfl) h
    · replace h := ite_neg c_7 h; clear c_7
      refine lv_iload Γ.1.1 Γ.1.2.1 dX4_leastOfMost_67 (lv_at hl 6 rfl) ?_
      refine lv_iload_n Γ.1.1 Γ.1.2.1 dX4_leastOfMost_69 rfl (lv_at hl 4 rfl) ?_
      refine lv_icmp_ge (tgt := 76) Γ.1.1 Γ.1.2.1 dX4_leastOfMost_70 (by decide) (fun c_9 => ?_) (fun c_9 => ?_)
      · replace h := ite_pos c_9 h; clear c_9
        obtain ⟨v4_10, e_v4_10, h⟩ := nm_some h
        refine lv_iinc (v := v4_10) (lv' := [(4, .int v4_10), (6, .int s0), (0, .ref (X.2.1 + 55)), (1, .int v1), (2, .ref (X.2.1 + 49)), (3, .int v3), (5, .int v5)]) Γ.1.1 Γ.1.2.1 dX4_leastOfMost_76 hl (k := 5) rfl (by rw [e_v4_10]; rfl) (by decide) rfl (fun ls hl => ?_)
        clear e_v4_10
        refine lv_goto (tgt := 5) Γ.1.1 Γ.1.2.1 dX4_leastOfMost_79 (by decide) ?_
        exact hk5 v3 v4_10 _ _ _ hI (lv_sub hl [2, 3, 4, 5, 0] rfl) h
      · replace h := ite_neg c_9 h; clear c_9
        refine lv_iload Γ.1.1 Γ.1.2.1 dX4_leastOfMost_73 (lv_at hl 6 rfl) ?_
        refine lv_istore_n (lv' := [(3, .int v5), (6, .int s0), (0, .ref (X.2.1 + 55)), (1, .int v1), (2, .ref (X.2.1 + 49)), (4, .int v4), (5, .int v5)]) Γ.1.1 Γ.1.2.1 dX4_leastOfMost_75 rfl hl (by decide) rfl (fun ls hl => ?_)
        obtain ⟨v4_11, e_v4_11, h⟩ := nm_some h
        refine lv_iinc (v := v4_11) (lv' := [(4, .int v4_11), (3, .int v5), (6, .int s0), (0, .ref (X.2.1 + 55)), (1, .int v1), (2, .ref (X.2.1 + 49)), (5, .int v5)]) Γ.1.1 Γ.1.2.1 dX4_leastOfMost_76 hl (k := 5) rfl (by rw [e_v4_11]; rfl) (by decide) rfl (fun ls hl => ?_)
        clear e_v4_11
        refine lv_goto (tgt := 5) Γ.1.1 Γ.1.2.1 dX4_leastOfMost_79 (by decide) ?_
        exact hk5 v5 v4_11 _ _ _ hI (lv_sub hl [3, 4, 5, 1, 0] rfl) h
set_option maxRecDepth 20000 in
set_option maxHeartbeats 4000000 in
theorem s_X4_leastOfMost_L55 {p : Program} {l : Launch} {e : Env} {s : State} {m : MethodId} {args : Array Value} {below : List Frame} {meth : Method} {c : Code} {X : GX} (σ : GM) (x : Int32) (Γ : gC X p m meth c cX4_leastOfMost 7 s args RX4 (some .int)) (v1 : Int32) (k5 : Int32 → Int32 → Option Int32) (hk5 : ∀ (v3 : Int32) (v4 : Int32) (H : Heap) (locs : List Loc) (ls : Array Slot), gI X σ s H locs → lv_has ls 7 [(0, .ref (X.2.1 + 55)), (1, .int v1), (2, .ref (X.2.1 + 49)), (3, .int v3), (4, .int v4)] → k5 v3 v4 = some x → W p l e ({ frames := 1, cells := 0, slots := 0, locals := 21 } : Room) s m args below meth c H locs 0 0 (MQ below (gQi X σ x) args s 0 0 (gA X)) (F0 m 5 ls [])) :
    ∀ (v3 : Int32) (v4 : Int32) (v5 : Int32) (H : Heap) (locs : List Loc) (ls : Array Slot), gI X σ s H locs → lv_has ls 7 [(0, .ref (X.2.1 + 55)), (1, .int v1), (2, .ref (X.2.1 + 49)), (3, .int v3), (4, .int v4), (5, .int v5)] → f_X4_leastOfMost_L55 σ k5 v1 v3 v4 v5 = some x →
    W p l e ({ frames := 1, cells := 0, slots := 0, locals := 21 } : Room) s m args below meth c H locs 0 0 (MQ below (gQi X σ x) args s 0 0 (gA X)) (F0 m 55 ls []) := by
  intro v3 v4 v5 H locs ls hI hl h
  unfold f_X4_leastOfMost_L55 at h
  refine lv_iconst (v := (0 : Int32)) Γ.1.1 Γ.1.2.1 dX4_leastOfMost_55 (by decide) ?_
  exact s_X4_leastOfMost_L56 σ x Γ v1 _ hk5 v3 v4 v5 (0 : Int32) _ _ _ hI hl h
set_option maxRecDepth 20000 in
set_option maxHeartbeats 4000000 in
theorem s_X4_leastOfMost_L5 {p : Program} {l : Launch} {e : Env} {s : State} {m : MethodId} {args : Array Value} {below : List Frame} {meth : Method} {c : Code} {X : GX} (σ : GM) (x : Int32) (Γ : gC X p m meth c cX4_leastOfMost 7 s args RX4 (some .int)) (v1 : Int32) :
    ∀ (k : Nat) (v3 : Int32) (v4 : Int32) (H : Heap) (locs : List Loc) (ls : Array Slot), gI X σ s H locs → lv_has ls 7 [(0, .ref (X.2.1 + 55)), (1, .int v1), (2, .ref (X.2.1 + 49)), (3, .int v3), (4, .int v4)] → f_X4_leastOfMost_L5 σ v1 k v3 v4 = some x →
    W p l e ({ frames := 1, cells := 0, slots := 0, locals := 21 } : Room) s m args below meth c H locs 0 0 (MQ below (gQi X σ x) args s 0 0 (gA X)) (F0 m 5 ls []) := by
  intro k
  induction k with
  | zero =>
    intro v3 v4 H locs ls hI hl h
    exact absurd h (by simp [f_X4_leastOfMost_L5])
  | succ k ih =>
    intro v3 v4 H locs ls hI hl h
    unfold f_X4_leastOfMost_L5 at h
    refine lv_iload Γ.1.1 Γ.1.2.1 dX4_leastOfMost_5 (lv_at hl 4 rfl) ?_
    refine lv_aload_n Γ.1.1 Γ.1.2.1 dX4_leastOfMost_7 rfl (lv_at hl 2 rfl) ?_
    refine get_X8_many Γ hI gw_165 dX4_leastOfMost_8 ?_
    refine lv_icmp_ge (tgt := 82) Γ.1.1 Γ.1.2.1 dX4_leastOfMost_11 (by decide) (fun c_1 => ?_) (fun c_1 => ?_)
    · replace h := ite_pos c_1 h; clear c_1
      refine lv_iload_n Γ.1.1 Γ.1.2.1 dX4_leastOfMost_82 rfl (lv_at hl 3 rfl) ?_
      exact g_iret Γ hI dX4_leastOfMost_83 rfl (Option.some.inj h)
    · replace h := ite_neg c_1 h; clear c_1
      refine lv_aload_n Γ.1.1 Γ.1.2.1 dX4_leastOfMost_14 rfl (lv_at hl 2 rfl) ?_
      refine lv_iload Γ.1.1 Γ.1.2.1 dX4_leastOfMost_15 (lv_at hl 4 rfl) ?_
      obtain ⟨r_2, hr_2, h⟩ := ob_some h
      refine g_ci Γ hI (g_runV (As := [.int v4]) Γ hI (S_X8_ringAt l X σ v4 r_2 hr_2) mf_X8_ringAt (recv_X8 Γ hI) gw_156 rfl rfl ⟨Nat.le_of_ble_eq_true rfl, Nat.le_of_ble_eq_true rfl⟩ rfl hl.1 rfl (Nat.le_of_ble_eq_true rfl) dX4_leastOfMost_17 ⟨Nat.zero_le _, Nat.zero_le _⟩) (fun H locs hI => ?_)
      clear hr_2
      refine lv_istore (lv' := [(5, .int r_2), (0, .ref (X.2.1 + 55)), (1, .int v1), (2, .ref (X.2.1 + 49)), (3, .int v3), (4, .int v4)]) Γ.1.1 Γ.1.2.1 dX4_leastOfMost_20 hl (by decide) rfl (fun ls hl => ?_)
      refine lv_iload Γ.1.1 Γ.1.2.1 dX4_leastOfMost_22 (lv_at hl 0 rfl) ?_
      refine lv_iload_n Γ.1.1 Γ.1.2.1 dX4_leastOfMost_24 rfl (lv_at hl 2 rfl) ?_
      refine lv_iconst (v := (-1 : Int32)) Γ.1.1 Γ.1.2.1 dX4_leastOfMost_25 (by decide) ?_
      refine lv_ixor Γ.1.1 Γ.1.2.1 dX4_leastOfMost_26 ?_
      refine lv_iand Γ.1.1 Γ.1.2.1 dX4_leastOfMost_27 ?_
      refine lv_if_ne (tgt := 55) Γ.1.1 Γ.1.2.1 dX4_leastOfMost_28 (by decide) (fun c_4 => ?_) (fun c_4 => ?_)
      · replace h := ite_neg c_4 h; clear c_4
        exact s_X4_leastOfMost_L55 σ x Γ v1 _ ih v3 v4 r_2 _ _ _ hI (lv_sub hl [1, 2, 3, 4, 5, 0] rfl) h
      · replace h := ite_pos c_4 h; clear c_4
        refine lv_iconst (v := (1 : Int32)) Γ.1.1 Γ.1.2.1 dX4_leastOfMost_31 (by decide) ?_
        refine lv_aload_n Γ.1.1 Γ.1.2.1 dX4_leastOfMost_32 rfl (lv_at hl 1 rfl) ?_
        refine lv_iload_n Γ.1.1 Γ.1.2.1 dX4_leastOfMost_33 rfl (lv_at hl 2 rfl) ?_
        refine lv_iload Γ.1.1 Γ.1.2.1 dX4_leastOfMost_34 (lv_at hl 0 rfl) ?_
        refine lv_iconst (v := (-1 : Int32)) Γ.1.1 Γ.1.2.1 dX4_leastOfMost_36 (by decide) ?_
        refine lv_ixor Γ.1.1 Γ.1.2.1 dX4_leastOfMost_37 ?_
        refine lv_iand Γ.1.1 Γ.1.2.1 dX4_leastOfMost_38 ?_
        obtain ⟨r_12, hr_12, h⟩ := ob_some h
        refine g_ci Γ hI (g_runV (As := [.int (v1 &&& (r_2 ^^^ (-1 : Int32)))]) Γ hI (S_X4_mostIn l X σ (v1 &&& (r_2 ^^^ (-1 : Int32))) r_12 hr_12) mf_X4_mostIn (recv_X4 Γ hI) gw_154 rfl rfl ⟨Nat.le_of_ble_eq_true rfl, Nat.le_of_ble_eq_true rfl⟩ rfl hl.1 rfl (Nat.le_of_ble_eq_true rfl) dX4_leastOfMost_39 ⟨Nat.zero_le _, Nat.zero_le _⟩) (fun H locs hI => ?_)
        clear hr_12
        refine lv_iadd Γ.1.1 Γ.1.2.1 dX4_leastOfMost_42 ?_
        refine lv_aload_n Γ.1.1 Γ.1.2.1 dX4_leastOfMost_43 rfl (lv_at hl 1 rfl) ?_
        refine lv_iload_n Γ.1.1 Γ.1.2.1 dX4_leastOfMost_44 rfl (lv_at hl 2 rfl) ?_
        obtain ⟨r_14, hr_14, h⟩ := ob_some h
        refine g_ci Γ hI (g_runV (As := [.int v1]) Γ hI (S_X4_mostIn l X σ v1 r_14 hr_14) mf_X4_mostIn (recv_X4 Γ hI) gw_154 rfl rfl ⟨Nat.le_of_ble_eq_true rfl, Nat.le_of_ble_eq_true rfl⟩ rfl hl.1 rfl (Nat.le_of_ble_eq_true rfl) dX4_leastOfMost_45 ⟨Nat.zero_le _, Nat.zero_le _⟩) (fun H locs hI => ?_)
        clear hr_14
        refine lv_icmp_ne (tgt := 55) Γ.1.1 Γ.1.2.1 dX4_leastOfMost_48 (by decide) (fun c_16 => ?_) (fun c_16 => ?_)
        · replace h := ite_neg c_16 h; clear c_16
          exact s_X4_leastOfMost_L55 σ x Γ v1 _ ih v3 v4 r_2 _ _ _ hI (lv_sub hl [1, 2, 3, 4, 5, 0] rfl) h
        · replace h := ite_pos c_16 h; clear c_16
          refine lv_iconst (v := (1 : Int32)) Γ.1.1 Γ.1.2.1 dX4_leastOfMost_51 (by decide) ?_
          refine lv_goto (tgt := 56) Γ.1.1 Γ.1.2.1 dX4_leastOfMost_52 (by decide) ?_
          exact s_X4_leastOfMost_L56 σ x Γ v1 _ ih v3 v4 r_2 (1 : Int32) _ _ _ hI (lv_sub hl [1, 2, 3, 4, 5, 0] rfl) h
set_option maxRecDepth 20000 in
set_option maxHeartbeats 4000000 in
theorem S_X4_leastOfMost (l : Launch) (X : GX) (σ : GM) (v1 : Int32) (x : Int32) (h : f_X4_leastOfMost σ v1 = some x) : gMet l yX4_leastOfMost cX4_leastOfMost 7 (some .int) ({ frames := 1, cells := 0, slots := 0, locals := 21 } : Room) X σ [.ref (X.2.1 + 55), .int v1, .ref (X.2.1 + 49)] (gQi X σ x) := by
  unfold f_X4_leastOfMost at h
  refine gMet_of (lv := [(0, .ref (X.2.1 + 55)), (1, .int v1), (2, .ref (X.2.1 + 49))]) (by decide) rfl (Nat.le_of_ble_eq_true rfl) rfl (fun p e s m below meth c H ls Γ hI hl => ?_)
  refine lv_iconst (v := (0 : Int32)) Γ.1.1 Γ.1.2.1 dX4_leastOfMost_0 (by decide) ?_
  refine lv_istore_n (lv' := [(3, .int (0 : Int32)), (0, .ref (X.2.1 + 55)), (1, .int v1), (2, .ref (X.2.1 + 49))]) Γ.1.1 Γ.1.2.1 dX4_leastOfMost_1 rfl hl (by decide) rfl (fun ls hl => ?_)
  refine lv_iconst (v := (0 : Int32)) Γ.1.1 Γ.1.2.1 dX4_leastOfMost_2 (by decide) ?_
  refine lv_istore (lv' := [(4, .int (0 : Int32)), (3, .int (0 : Int32)), (0, .ref (X.2.1 + 55)), (1, .int v1), (2, .ref (X.2.1 + 49))]) Γ.1.1 Γ.1.2.1 dX4_leastOfMost_3 hl (by decide) rfl (fun ls hl => ?_)
  exact s_X4_leastOfMost_L5 σ x Γ v1 _ (0 : Int32) (0 : Int32) _ _ _ hI (lv_sub hl [2, 3, 4, 1, 0] rfl) h
set_option maxRecDepth 20000 in
set_option maxHeartbeats 4000000 in
theorem s_X4_ringAt_L28 {p : Program} {l : Launch} {e : Env} {s : State} {m : MethodId} {args : Array Value} {below : List Frame} {meth : Method} {c : Code} {X : GX} (σ : GM) (x : Int32) (Γ : gC X p m meth c cX4_ringAt 8 s args RX4 (some .int)) (v1 : Int32) :
    ∀ (k : Nat) (v5 : Int32) (v6 : Int32) (v7 : Int32) (H : Heap) (locs : List Loc) (ls : Array Slot), gI X σ s H locs → lv_has ls 8 [(0, .ref (X.2.1 + 55)), (1, .int v1), (3, .ref (X.2.1 + 49)), (5, .int v5), (6, .int v6), (7, .int v7)] → f_X4_ringAt_L28 σ v1 k v5 v6 v7 = some x →
    W p l e ({ frames := 2, cells := 0, slots := 0, locals := 47 } : Room) s m args below meth c H locs 0 0 (MQ below (gQi X σ x) args s 0 0 (gA X)) (F0 m 28 ls []) := by
  intro k
  induction k with
  | zero =>
    intro v5 v6 v7 H locs ls hI hl h
    exact absurd h (by simp [f_X4_ringAt_L28])
  | succ k ih =>
    intro v5 v6 v7 H locs ls hI hl h
    unfold f_X4_ringAt_L28 at h
    refine lv_iload Γ.1.1 Γ.1.2.1 dX4_ringAt_28 (lv_at hl 5 rfl) ?_
    refine lv_iload_n Γ.1.1 Γ.1.2.1 dX4_ringAt_30 rfl (lv_at hl 1 rfl) ?_
    refine lv_icmp_gt (tgt := 58) Γ.1.1 Γ.1.2.1 dX4_ringAt_31 (by decide) (fun c_5 => ?_) (fun c_5 => ?_)
    · replace h := ite_pos c_5 h; clear c_5
      refine lv_iload Γ.1.1 Γ.1.2.1 dX4_ringAt_58 (lv_at hl 4 rfl) ?_
      exact g_iret Γ hI dX4_ringAt_60 rfl (Option.some.inj h)
    · replace h := ite_neg c_5 h; clear c_5
      refine lv_aload_n Γ.1.1 Γ.1.2.1 dX4_ringAt_34 rfl (lv_at hl 0 rfl) ?_
      refine lv_iload Γ.1.1 Γ.1.2.1 dX4_ringAt_35 (lv_at hl 3 rfl) ?_
      refine lv_aload_n Γ.1.1 Γ.1.2.1 dX4_ringAt_37 rfl (lv_at hl 2 rfl) ?_
      obtain ⟨r_6, hr_6, h⟩ := ob_some h
      refine g_ci Γ hI (g_runV (As := [.int v5, .ref (X.2.1 + 49)]) Γ hI (S_X4_leastOfMost l X σ v5 r_6 hr_6) mf_X4_leastOfMost (recv_X4 Γ hI) gw_166 rfl rfl ⟨Nat.le_of_ble_eq_true rfl, Nat.le_of_ble_eq_true rfl⟩ rfl hl.1 rfl (Nat.le_of_ble_eq_true rfl) dX4_ringAt_38 ⟨Nat.zero_le _, Nat.zero_le _⟩) (fun H locs hI => ?_)
      clear hr_6
      refine lv_istore (lv' := [(6, .int r_6), (0, .ref (X.2.1 + 55)), (1, .int v1), (3, .ref (X.2.1 + 49)), (5, .int v5), (7, .int v7)]) Γ.1.1 Γ.1.2.1 dX4_ringAt_41 hl (by decide) rfl (fun ls hl => ?_)
      refine lv_iload Γ.1.1 Γ.1.2.1 dX4_ringAt_43 (lv_at hl 4 rfl) ?_
      refine lv_iload Γ.1.1 Γ.1.2.1 dX4_ringAt_45 (lv_at hl 0 rfl) ?_
      refine lv_iconst (v := (-1 : Int32)) Γ.1.1 Γ.1.2.1 dX4_ringAt_47 (by decide) ?_
      refine lv_ixor Γ.1.1 Γ.1.2.1 dX4_ringAt_48 ?_
      refine lv_iand Γ.1.1 Γ.1.2.1 dX4_ringAt_49 ?_
      refine lv_topi (fun v5_8 e_v5_8 => ?_)
      replace h := nm_at e_v5_8 h; clear e_v5_8
      refine lv_istore (lv' := [(5, .int v5_8), (6, .int r_6), (0, .ref (X.2.1 + 55)), (1, .int v1), (3, .ref (X.2.1 + 49)), (7, .int v7)]) Γ.1.1 Γ.1.2.1 dX4_ringAt_50 hl (by decide) rfl (fun ls hl => ?_)
      obtain ⟨v7_9, e_v7_9, h⟩ := nm_some h
      refine lv_iinc (v := v7_9) (lv' := [(7, .int v7_9), (5, .int v5_8), (6, .int r_6), (0, .ref (X.2.1 + 55)), (1, .int v1), (3, .ref (X.2.1 + 49))]) Γ.1.1 Γ.1.2.1 dX4_ringAt_52 hl (k := 5) rfl (by rw [e_v7_9]; rfl) (by decide) rfl (fun ls hl => ?_)
      clear e_v7_9
      refine lv_goto (tgt := 28) Γ.1.1 Γ.1.2.1 dX4_ringAt_55 (by decide) ?_
      exact ih v5_8 r_6 v7_9 _ _ _ hI (lv_sub hl [3, 4, 5, 1, 2, 0] rfl) h
set_option maxRecDepth 20000 in
set_option maxHeartbeats 4000000 in
theorem S_X4_ringAt (l : Launch) (X : GX) (σ : GM) (v1 : Int32) (v2 : Int32) (x : Int32) (h : f_X4_ringAt σ v1 v2 = some x) : gMet l yX4_ringAt cX4_ringAt 8 (some .int) ({ frames := 2, cells := 0, slots := 0, locals := 47 } : Room) X σ [.ref (X.2.1 + 55), .int v1, .int v2, .ref (X.2.1 + 49)] (gQi X σ x) := by
  unfold f_X4_ringAt at h
  refine gMet_of (lv := [(0, .ref (X.2.1 + 55)), (1, .int v1), (2, .int v2), (3, .ref (X.2.1 + 49))]) (by decide) rfl (Nat.le_of_ble_eq_true rfl) rfl (fun p e s m below meth c H ls Γ hI hl => ?_)
  refine lv_aload_n Γ.1.1 Γ.1.2.1 dX4_ringAt_0 rfl (lv_at hl 0 rfl) ?_
  refine lv_iload_n Γ.1.1 Γ.1.2.1 dX4_ringAt_1 rfl (lv_at hl 2 rfl) ?_
  obtain ⟨r_1, hr_1, h⟩ := ob_some h
  refine g_ci Γ hI (g_runV (As := [.int v2]) Γ hI (S_X4_mostIn l X σ v2 r_1 hr_1) mf_X4_mostIn (recv_X4 Γ hI) gw_154 rfl rfl ⟨Nat.le_of_ble_eq_true rfl, Nat.le_of_ble_eq_true rfl⟩ rfl hl.1 rfl (Nat.le_of_ble_eq_true rfl) dX4_ringAt_2 ⟨Nat.zero_le _, Nat.zero_le _⟩) (fun H locs hI => ?_)
  clear hr_1
  refine lv_istore (lv' := [(4, .int r_1), (0, .ref (X.2.1 + 55)), (1, .int v1), (2, .int v2), (3, .ref (X.2.1 + 49))]) Γ.1.1 Γ.1.2.1 dX4_ringAt_5 hl (by decide) rfl (fun ls hl => ?_)
  refine lv_iload_n Γ.1.1 Γ.1.2.1 dX4_ringAt_7 rfl (lv_at hl 2 rfl) ?_
  refine lv_if_lt (tgt := 17) Γ.1.1 Γ.1.2.1 dX4_ringAt_8 (by decide) (fun c_3 => ?_) (fun c_3 => ?_)
  · replace h := ite_pos c_3 h; clear c_3
    refine lv_iconst (v := (-1 : Int32)) Γ.1.1 Γ.1.2.1 dX4_ringAt_17 (by decide) ?_
    exact g_iret Γ hI dX4_ringAt_18 rfl (Option.some.inj h)
  · replace h := ite_neg c_3 h; clear c_3
    refine lv_iload_n Γ.1.1 Γ.1.2.1 dX4_ringAt_11 rfl (lv_at hl 2 rfl) ?_
    refine lv_iload Γ.1.1 Γ.1.2.1 dX4_ringAt_12 (lv_at hl 0 rfl) ?_
    refine lv_icmp_lt (tgt := 19) Γ.1.1 Γ.1.2.1 dX4_ringAt_14 (by decide) (fun c_4 => ?_) (fun c_4 => ?_)
    · replace h := ite_pos c_4 h; clear c_4
      refine lv_iload_n Γ.1.1 Γ.1.2.1 dX4_ringAt_19 rfl (lv_at hl 3 rfl) ?_
      refine lv_istore (lv' := [(5, .int v2), (4, .int r_1), (0, .ref (X.2.1 + 55)), (1, .int v1), (2, .int v2), (3, .ref (X.2.1 + 49))]) Γ.1.1 Γ.1.2.1 dX4_ringAt_20 hl (by decide) rfl (fun ls hl => ?_)
      refine lv_iconst (v := (0 : Int32)) Γ.1.1 Γ.1.2.1 dX4_ringAt_22 (by decide) ?_
      refine lv_istore (lv' := [(6, .int (0 : Int32)), (5, .int v2), (4, .int r_1), (0, .ref (X.2.1 + 55)), (1, .int v1), (2, .int v2), (3, .ref (X.2.1 + 49))]) Γ.1.1 Γ.1.2.1 dX4_ringAt_23 hl (by decide) rfl (fun ls hl => ?_)
      refine lv_iconst (v := (0 : Int32)) Γ.1.1 Γ.1.2.1 dX4_ringAt_25 (by decide) ?_
      refine lv_istore (lv' := [(7, .int (0 : Int32)), (6, .int (0 : Int32)), (5, .int v2), (4, .int r_1), (0, .ref (X.2.1 + 55)), (1, .int v1), (2, .int v2), (3, .ref (X.2.1 + 49))]) Γ.1.1 Γ.1.2.1 dX4_ringAt_26 hl (by decide) rfl (fun ls hl => ?_)
      exact s_X4_ringAt_L28 σ x Γ v1 _ v2 (0 : Int32) (0 : Int32) _ _ _ hI (lv_sub hl [4, 5, 7, 2, 1, 0] rfl) h
    · replace h := ite_neg c_4 h; clear c_4
      refine lv_iconst (v := (-1 : Int32)) Γ.1.1 Γ.1.2.1 dX4_ringAt_17 (by decide) ?_
      exact g_iret Γ hI dX4_ringAt_18 rfl (Option.some.inj h)
set_option maxRecDepth 20000 in
set_option maxHeartbeats 4000000 in
theorem S_X11_pack (l : Launch) (X : GX) (σ : GM) (v1 : Int32) (σr : GM) (x : Int32) (h : f_X11_pack σ v1 = some (σr, x)) : gMet l yX11_pack cX11_pack 2 (some .int) ({ frames := 6, cells := 0, slots := 0, locals := 130 } : Room) X σ [.ref (X.2.1 + 0), .int v1] (gQi X σr x) := by
  unfold f_X11_pack at h
  refine gMet_of (lv := [(0, .ref (X.2.1 + 0)), (1, .int v1)]) (by decide) rfl (Nat.le_of_ble_eq_true rfl) rfl (fun p e s m below meth c H ls Γ hI hl => ?_)
  refine lv_iload_n Γ.1.1 Γ.1.2.1 dX11_pack_0 rfl (lv_at hl 1 rfl) ?_
  refine lv_if_ge (tgt := 8) Γ.1.1 Γ.1.2.1 dX11_pack_1 (by decide) (fun c_1 => ?_) (fun c_1 => ?_)
  · replace h := ite_pos c_1 h; clear c_1
    refine lv_aload_n Γ.1.1 Γ.1.2.1 dX11_pack_8 rfl (lv_at hl 0 rfl) ?_
    obtain ⟨σ_3, hr_2, h⟩ := ob_some h
    refine g_cr Γ hI (g_runV (As := []) Γ hI (S_X11_packingNow l X σ σ_3 hr_2) mf_X11_packingNow (recv_X11 Γ hI) gw_163 rfl rfl ⟨Nat.le_of_ble_eq_true rfl, Nat.le_of_ble_eq_true rfl⟩ rfl hl.1 rfl (Nat.le_of_ble_eq_true rfl) dX11_pack_9 ⟨Nat.zero_le _, Nat.zero_le _⟩) (fun H locs hI => ?_)
    clear hr_2
    refine lv_iload_n Γ.1.1 Γ.1.2.1 dX11_pack_12 rfl (lv_at hl 1 rfl) ?_
    refine lv_aload_n Γ.1.1 Γ.1.2.1 dX11_pack_13 rfl (lv_at hl 0 rfl) ?_
    refine get_X11_net Γ hI gw_106 dX11_pack_14 ?_
    refine get_X3_there sh_8 Γ hI gw_115 dX11_pack_17 ?_
    refine lv_aload_n Γ.1.1 Γ.1.2.1 dX11_pack_20 rfl (lv_at hl 0 rfl) ?_
    refine get_X11_rings Γ hI gw_135 dX11_pack_21 ?_
    obtain ⟨r_4, hr_4, h⟩ := ob_some h
    refine g_ci Γ hI (g_runV (As := [.int v1, .int (σ_3.1 8 3), .ref (X.2.1 + 49)]) Γ hI (S_X4_ringAt l X σ_3 v1 (σ_3.1 8 3) r_4 hr_4) mf_X4_ringAt (recv_X4 Γ hI) gw_167 rfl rfl ⟨Nat.le_of_ble_eq_true rfl, Nat.le_of_ble_eq_true rfl⟩ rfl hl.1 rfl (Nat.le_of_ble_eq_true rfl) dX11_pack_24 ⟨Nat.zero_le _, Nat.zero_le _⟩) (fun H locs hI => ?_)
    clear hr_4
    exact g_iret Γ hI dX11_pack_27 (Prod.mk.inj (Option.some.inj h)).1 (Prod.mk.inj (Option.some.inj h)).2
  · replace h := ite_neg c_1 h; clear c_1
    refine lv_iconst (v := (-1 : Int32)) Γ.1.1 Γ.1.2.1 dX11_pack_4 (by decide) ?_
    refine lv_goto (tgt := 27) Γ.1.1 Γ.1.2.1 dX11_pack_5 (by decide) ?_
    exact g_iret Γ hI dX11_pack_27 (Prod.mk.inj (Option.some.inj h)).1 (Prod.mk.inj (Option.some.inj h)).2
set_option maxRecDepth 20000 in
set_option maxHeartbeats 4000000 in
theorem S_X11_discountNow (l : Launch) (X : GX) (σ : GM) (σr : GM) (h : f_X11_discountNow σ = some σr) : gMet l yX11_discountNow cX11_discountNow 1 (some (.object "RingCutters$Discount")) ({ frames := 6, cells := 0, slots := 0, locals := 141 } : Room) X σ [.ref (X.2.1 + 0)] (gQq X σr (some 57)) := by
  unfold f_X11_discountNow at h
  refine gMet_of (lv := [(0, .ref (X.2.1 + 0))]) (by decide) rfl (Nat.le_of_ble_eq_true rfl) rfl (fun p e s m below meth c H ls Γ hI hl => ?_)
  refine lv_aload_n Γ.1.1 Γ.1.2.1 dX11_discountNow_0 rfl (lv_at hl 0 rfl) ?_
  refine get_X11_discountStale Γ hI gw_102 dX11_discountNow_1 ?_
  refine lv_if_eq (tgt := 27) Γ.1.1 Γ.1.2.1 dX11_discountNow_4 (by decide) (fun c_1 => ?_) (fun c_1 => ?_)
  · replace h := ite_pos c_1 h; clear c_1
    refine lv_aload_n Γ.1.1 Γ.1.2.1 dX11_discountNow_27 rfl (lv_at hl 0 rfl) ?_
    refine get_X11_discount Γ hI gw_168 dX11_discountNow_28 ?_
    exact g_aret (x := some 57) rfl Γ hI dX11_discountNow_31 (Option.some.inj h) rfl
  · replace h := ite_neg c_1 h; clear c_1
    refine lv_aload_n Γ.1.1 Γ.1.2.1 dX11_discountNow_7 rfl (lv_at hl 0 rfl) ?_
    refine get_X11_discount Γ hI gw_168 dX11_discountNow_8 ?_
    refine lv_aload_n Γ.1.1 Γ.1.2.1 dX11_discountNow_11 rfl (lv_at hl 0 rfl) ?_
    refine get_X11_net Γ hI gw_106 dX11_discountNow_12 ?_
    refine lv_aload_n Γ.1.1 Γ.1.2.1 dX11_discountNow_15 rfl (lv_at hl 0 rfl) ?_
    obtain ⟨σ_3, hr_2, h⟩ := ob_some h
    refine g_cr Γ hI (g_runV (As := []) Γ hI (S_X11_ringsNow l X σ σ_3 hr_2) mf_X11_ringsNow (recv_X11 Γ hI) gw_138 rfl rfl ⟨Nat.le_of_ble_eq_true rfl, Nat.le_of_ble_eq_true rfl⟩ rfl hl.1 rfl (Nat.le_of_ble_eq_true rfl) dX11_discountNow_16 ⟨Nat.zero_le _, Nat.zero_le _⟩) (fun H locs hI => ?_)
    clear hr_2
    obtain ⟨σ_5, hr_4, h⟩ := ob_some h
    refine g_cv Γ hI (g_runV (As := [.ref (X.2.1 + 8), .ref (X.2.1 + 49)]) Γ hI (S_X0_run l X σ_3 σ_5 hr_4) mf_X0_run (recv_X0 Γ hI) gw_169 rfl rfl ⟨Nat.le_of_ble_eq_true rfl, Nat.le_of_ble_eq_true rfl⟩ rfl hl.1 rfl (Nat.le_of_ble_eq_true rfl) dX11_discountNow_19 ⟨Nat.zero_le _, Nat.zero_le _⟩) (fun H locs hI => ?_)
    clear hr_4
    refine lv_aload_n Γ.1.1 Γ.1.2.1 dX11_discountNow_22 rfl (lv_at hl 0 rfl) ?_
    refine lv_iconst (v := (0 : Int32)) Γ.1.1 Γ.1.2.1 dX11_discountNow_23 (by decide) ?_
    refine put_X11_discountStale Γ hI (by decide) (by decide) gw_102 dX11_discountNow_24 (fun H locs hI => ?_)
    obtain ⟨σ_6, e_m_6, h⟩ := nm_some h
    rw [← e_m_6] at hI; clear e_m_6
    refine lv_aload_n Γ.1.1 Γ.1.2.1 dX11_discountNow_27 rfl (lv_at hl 0 rfl) ?_
    refine get_X11_discount Γ hI gw_168 dX11_discountNow_28 ?_
    exact g_aret (x := some 57) rfl Γ hI dX11_discountNow_31 (Option.some.inj h) rfl
set_option maxRecDepth 20000 in
set_option maxHeartbeats 4000000 in
theorem S_X11_near (l : Launch) (X : GX) (σ : GM) (σr : GM) (x : Int32) (h : f_X11_near σ = some (σr, x)) : gMet l yX11_near cX11_near 1 (some .int) ({ frames := 7, cells := 0, slots := 0, locals := 161 } : Room) X σ [.ref (X.2.1 + 0)] (gQi X σr x) := by
  unfold f_X11_near at h
  refine gMet_of (lv := [(0, .ref (X.2.1 + 0))]) (by decide) rfl (Nat.le_of_ble_eq_true rfl) rfl (fun p e s m below meth c H ls Γ hI hl => ?_)
  refine lv_aload_n Γ.1.1 Γ.1.2.1 dX11_near_0 rfl (lv_at hl 0 rfl) ?_
  obtain ⟨σ_2, hr_1, h⟩ := ob_some h
  refine g_cr Γ hI (g_runV (As := []) Γ hI (S_X11_discountNow l X σ σ_2 hr_1) mf_X11_discountNow (recv_X11 Γ hI) gw_170 rfl rfl ⟨Nat.le_of_ble_eq_true rfl, Nat.le_of_ble_eq_true rfl⟩ rfl hl.1 rfl (Nat.le_of_ble_eq_true rfl) dX11_near_1 ⟨Nat.zero_le _, Nat.zero_le _⟩) (fun H locs hI => ?_)
  clear hr_1
  refine get_X0_cut Γ hI gw_171 dX11_near_4 ?_
  exact g_iret Γ hI dX11_near_7 (Prod.mk.inj (Option.some.inj h)).1 (Prod.mk.inj (Option.some.inj h)).2
set_option maxRecDepth 20000 in
set_option maxHeartbeats 4000000 in
theorem S_X5_placeAt (l : Launch) (X : GX) (σ : GM) (v1 : Int32) (x : Option Nat) (h : f_X5_placeAt σ v1 = some x) : gMet l yX5_placeAt cX5_placeAt 2 (some (.object "RingCutters$Net")) ({ frames := 0, cells := 0, slots := 0, locals := 0 } : Room) X σ [.ref (X.2.1 + 11), .int v1] (gQq X σ x) := by
  unfold f_X5_placeAt at h
  refine gMet_of (lv := [(0, .ref (X.2.1 + 11)), (1, .int v1)]) (by decide) rfl (Nat.le_of_ble_eq_true rfl) rfl (fun p e s m below meth c H ls Γ hI hl => ?_)
  refine lv_iload_n Γ.1.1 Γ.1.2.1 dX5_placeAt_0 rfl (lv_at hl 1 rfl) ?_
  refine lv_if_lt (tgt := 22) Γ.1.1 Γ.1.2.1 dX5_placeAt_1 (by decide) (fun c_1 => ?_) (fun c_1 => ?_)
  · replace h := ite_pos c_1 h; clear c_1
    refine lv_null Γ.1.1 Γ.1.2.1 dX5_placeAt_22 ?_
    exact g_aret (x := none) rfl Γ hI dX5_placeAt_23 rfl (Option.some.inj h)
  · replace h := ite_neg c_1 h; clear c_1
    refine lv_iload_n Γ.1.1 Γ.1.2.1 dX5_placeAt_4 rfl (lv_at hl 1 rfl) ?_
    refine lv_aload_n Γ.1.1 Γ.1.2.1 dX5_placeAt_5 rfl (lv_at hl 0 rfl) ?_
    refine get_X5_places Γ hI gw_172 dX5_placeAt_6 ?_
    refine g_alen Γ hI sh_12 (by decide) (v := (9 : Int32)) (by decide) dX5_placeAt_9 ?_
    refine lv_icmp_ge (tgt := 22) Γ.1.1 Γ.1.2.1 dX5_placeAt_10 (by decide) (fun c_2 => ?_) (fun c_2 => ?_)
    · replace h := ite_pos c_2 h; clear c_2
      refine lv_null Γ.1.1 Γ.1.2.1 dX5_placeAt_22 ?_
      exact g_aret (x := none) rfl Γ hI dX5_placeAt_23 rfl (Option.some.inj h)
    · replace h := ite_neg c_2 h; clear c_2
      refine lv_aload_n Γ.1.1 Γ.1.2.1 dX5_placeAt_13 rfl (lv_at hl 0 rfl) ?_
      refine get_X5_places Γ hI gw_172 dX5_placeAt_14 ?_
      refine lv_iload_n Γ.1.1 Γ.1.2.1 dX5_placeAt_17 rfl (lv_at hl 1 rfl) ?_
      obtain ⟨hb_3, h⟩ := bnd_some h
      refine g_aald Γ hI sh_12 hb_3 dX5_placeAt_18 ?_
      refine lv_goto (tgt := 23) Γ.1.1 Γ.1.2.1 dX5_placeAt_19 (by decide) ?_
      exact g_aret (x := (some (13 + 3 * v1.toNatClampNeg))) rfl Γ hI dX5_placeAt_23 rfl (Option.some.inj h)
set_option maxRecDepth 20000 in
set_option maxHeartbeats 4000000 in
theorem S_X5_note (l : Launch) (X : GX) (σ : GM) (σr : GM) (h : f_X5_note σ = some σr) : gMet l yX5_note cX5_note 3 none ({ frames := 1, cells := 0, slots := 0, locals := 22 } : Room) X σ [.ref (X.2.1 + 11), .ref (X.2.1 + 8)] (gQv X σr) := by
  unfold f_X5_note at h
  refine gMet_of (lv := [(0, .ref (X.2.1 + 11)), (1, .ref (X.2.1 + 8))]) (by decide) rfl (Nat.le_of_ble_eq_true rfl) rfl (fun p e s m below meth c H ls Γ hI hl => ?_)
  refine lv_aload_n Γ.1.1 Γ.1.2.1 dX5_note_0 rfl (lv_at hl 0 rfl) ?_
  refine lv_aload_n Γ.1.1 Γ.1.2.1 dX5_note_1 rfl (lv_at hl 0 rfl) ?_
  refine get_X5_latest Γ hI gw_173 dX5_note_2 ?_
  refine lv_iconst (v := (1 : Int32)) Γ.1.1 Γ.1.2.1 dX5_note_5 (by decide) ?_
  refine lv_iadd Γ.1.1 Γ.1.2.1 dX5_note_6 ?_
  refine lv_bipush (v := (9 : Int32)) Γ.1.1 Γ.1.2.1 dX5_note_7 (by decide) ?_
  obtain ⟨hz_1, h⟩ := nz_some h
  refine lv_irem Γ.1.1 Γ.1.2.1 dX5_note_9 hz_1 ?_
  obtain ⟨r_2, hr_2, h⟩ := ob_some h
  refine g_cqq Γ hI (g_runV (As := [.int (((σ.1 11 2) + (1 : Int32)) - ((σ.1 11 2) + (1 : Int32)) / (9 : Int32) * (9 : Int32))]) Γ hI (S_X5_placeAt l X σ (((σ.1 11 2) + (1 : Int32)) - ((σ.1 11 2) + (1 : Int32)) / (9 : Int32) * (9 : Int32)) r_2 hr_2) mf_X5_placeAt (recv_X5 Γ hI) gw_174 rfl rfl ⟨Nat.le_of_ble_eq_true rfl, Nat.le_of_ble_eq_true rfl⟩ rfl hl.1 rfl (Nat.le_of_ble_eq_true rfl) dX5_note_10 ⟨Nat.zero_le _, Nat.zero_le _⟩) (fun H locs hI e_r_4 => ?_) (fun v_5 H locs hI e_r_4 => ?_)
  · subst e_r_4; replace h := qm_none h
    refine lv_astore_nN (lv' := [(2, .null), (0, .ref (X.2.1 + 11)), (1, .ref (X.2.1 + 8))]) Γ.1.1 Γ.1.2.1 dX5_note_13 rfl hl (by decide) rfl (fun ls hl => ?_)
    refine lv_aload_nN Γ.1.1 Γ.1.2.1 dX5_note_14 rfl (lv_at hl 0 rfl) ?_
    refine lv_ifnullN (tgt := 23) Γ.1.1 Γ.1.2.1 dX5_note_15 (by decide) ?_
    exact g_vret Γ hI dX5_note_23 (Option.some.inj h)
  · subst e_r_4; replace h := qm_some h; obtain ⟨hv_5, h⟩ := chkS_some h
    refine lv_astore_n (lv' := [(2, .ref (X.2.1 + v_5)), (0, .ref (X.2.1 + 11)), (1, .ref (X.2.1 + 8))]) Γ.1.1 Γ.1.2.1 dX5_note_13 rfl hl (by decide) rfl (fun ls hl => ?_)
    refine lv_aload_n Γ.1.1 Γ.1.2.1 dX5_note_14 rfl (lv_at hl 0 rfl) ?_
    refine lv_ifnull Γ.1.1 Γ.1.2.1 dX5_note_15 ?_
    refine lv_aload_n Γ.1.1 Γ.1.2.1 dX5_note_18 rfl (lv_at hl 0 rfl) ?_
    refine lv_aload_n Γ.1.1 Γ.1.2.1 dX5_note_19 rfl (lv_at hl 2 rfl) ?_
    obtain ⟨σ_7, hr_6, h⟩ := ob_some h
    refine g_cv Γ hI (g_runV (As := [.ref (X.2.1 + 8)]) Γ hI (S_X3_copyFrom l X σ v_5 8 hv_5 sh_8 σ_7 hr_6) mf_X3_copyFrom (recv_X3 hv_5 Γ hI) gw_175 rfl rfl ⟨Nat.le_of_ble_eq_true rfl, Nat.le_of_ble_eq_true rfl⟩ rfl hl.1 rfl (Nat.le_of_ble_eq_true rfl) dX5_note_20 ⟨Nat.zero_le _, Nat.zero_le _⟩) (fun H locs hI => ?_)
    clear hr_6
    exact g_vret Γ hI dX5_note_23 (Option.some.inj h)
set_option maxRecDepth 20000 in
set_option maxHeartbeats 4000000 in
theorem s_X9_takeLooped_L25 {p : Program} {l : Launch} {e : Env} {s : State} {m : MethodId} {args : Array Value} {below : List Frame} {meth : Method} {c : Code} {X : GX} (σr : GM) (x : Int32) (Γ : gC X p m meth c cX9_takeLooped 2 s args RX9 (some .int)) :
    ∀ (σ : GM) (v1 : Int32) (H : Heap) (locs : List Loc) (ls : Array Slot), gI X σ s H locs → lv_has ls 2 [(0, .ref (X.2.1 + 8)), (1, .int v1)] → f_X9_takeLooped_L25 σ v1 = some (σr, x) →
    W p l e ({ frames := 3, cells := 0, slots := 0, locals := 68 } : Room) s m args below meth c H locs 0 0 (MQ below (gQi X σr x) args s 0 0 (gA X)) (F0 m 25 ls []) := by
  intro σ v1 H locs ls hI hl h
  unfold f_X9_takeLooped_L25 at h
  refine lv_aload_n Γ.1.1 Γ.1.2.1 dX9_takeLooped_25 rfl (lv_at hl 0 rfl) ?_
  refine lv_iload_n Γ.1.1 Γ.1.2.1 dX9_takeLooped_26 rfl (lv_at hl 1 rfl) ?_
  obtain ⟨σ_11, r_10, hr_10, h⟩ := ob2_some h
  refine g_ci Γ hI (g_runV (As := [.int v1]) Γ hI (S_X3_remove l X σ 8 sh_8 v1 σ_11 r_10 hr_10) mf_X3_remove (recv_X3 sh_8 Γ hI) gw_178 rfl rfl ⟨Nat.le_of_ble_eq_true rfl, Nat.le_of_ble_eq_true rfl⟩ rfl hl.1 rfl (Nat.le_of_ble_eq_true rfl) dX9_takeLooped_27 ⟨Nat.zero_le _, Nat.zero_le _⟩) (fun H locs hI => ?_)
  clear hr_10
  refine lv_pop Γ.1.1 Γ.1.2.1 dX9_takeLooped_30 rfl ?_
  refine lv_aload_n Γ.1.1 Γ.1.2.1 dX9_takeLooped_31 rfl (lv_at hl 0 rfl) ?_
  refine lv_dup Γ.1.1 Γ.1.2.1 dX9_takeLooped_32 rfl ?_
  refine get_X3_taken sh_8 Γ hI gw_179 dX9_takeLooped_33 ?_
  refine lv_iconst (v := (1 : Int32)) Γ.1.1 Γ.1.2.1 dX9_takeLooped_36 (by decide) ?_
  refine lv_iload_n Γ.1.1 Γ.1.2.1 dX9_takeLooped_37 rfl (lv_at hl 1 rfl) ?_
  refine lv_ishl Γ.1.1 Γ.1.2.1 dX9_takeLooped_38 ?_
  refine lv_ior Γ.1.1 Γ.1.2.1 dX9_takeLooped_39 ?_
  refine put_X3_taken sh_8 Γ hI gw_179 dX9_takeLooped_40 (fun H locs hI => ?_)
  obtain ⟨σ_12, e_m_12, h⟩ := nm_some h
  rw [← e_m_12] at hI; clear e_m_12
  refine lv_iload_n Γ.1.1 Γ.1.2.1 dX9_takeLooped_43 rfl (lv_at hl 1 rfl) ?_
  exact g_iret Γ hI dX9_takeLooped_44 (Prod.mk.inj (Option.some.inj h)).1 (Prod.mk.inj (Option.some.inj h)).2
set_option maxRecDepth 20000 in
set_option maxHeartbeats 4000000 in
theorem s_X9_takeLooped_L2 {p : Program} {l : Launch} {e : Env} {s : State} {m : MethodId} {args : Array Value} {below : List Frame} {meth : Method} {c : Code} {X : GX} (σr : GM) (x : Int32) (Γ : gC X p m meth c cX9_takeLooped 2 s args RX9 (some .int)) :
    ∀ (k : Nat) (σ : GM) (v1 : Int32) (H : Heap) (locs : List Loc) (ls : Array Slot), gI X σ s H locs → lv_has ls 2 [(0, .ref (X.2.1 + 8)), (1, .int v1)] → f_X9_takeLooped_L2 k σ v1 = some (σr, x) →
    W p l e ({ frames := 3, cells := 0, slots := 0, locals := 68 } : Room) s m args below meth c H locs 0 0 (MQ below (gQi X σr x) args s 0 0 (gA X)) (F0 m 2 ls []) := by
  intro k
  induction k with
  | zero =>
    intro σ v1 H locs ls hI hl h
    exact absurd h (by simp [f_X9_takeLooped_L2])
  | succ k ih =>
    intro σ v1 H locs ls hI hl h
    unfold f_X9_takeLooped_L2 at h
    refine lv_iload_n Γ.1.1 Γ.1.2.1 dX9_takeLooped_2 rfl (lv_at hl 1 rfl) ?_
    refine lv_bipush (v := (12 : Int32)) Γ.1.1 Γ.1.2.1 dX9_takeLooped_3 (by decide) ?_
    refine lv_icmp_ge (tgt := 51) Γ.1.1 Γ.1.2.1 dX9_takeLooped_5 (by decide) (fun c_1 => ?_) (fun c_1 => ?_)
    · replace h := ite_pos c_1 h; clear c_1
      refine lv_iconst (v := (-1 : Int32)) Γ.1.1 Γ.1.2.1 dX9_takeLooped_51 (by decide) ?_
      exact g_iret Γ hI dX9_takeLooped_52 (Prod.mk.inj (Option.some.inj h)).1 (Prod.mk.inj (Option.some.inj h)).2
    · replace h := ite_neg c_1 h; clear c_1
      refine lv_aload_n Γ.1.1 Γ.1.2.1 dX9_takeLooped_8 rfl (lv_at hl 0 rfl) ?_
      refine lv_iload_n Γ.1.1 Γ.1.2.1 dX9_takeLooped_9 rfl (lv_at hl 1 rfl) ?_
      obtain ⟨r_2, hr_2, h⟩ := ob_some h
      refine g_ci Γ hI (g_runV (As := [.int v1]) Γ hI (S_X3_isThere l X σ 8 sh_8 v1 r_2 hr_2) mf_X3_isThere (recv_X3 sh_8 Γ hI) gw_176 rfl rfl ⟨Nat.le_of_ble_eq_true rfl, Nat.le_of_ble_eq_true rfl⟩ rfl hl.1 rfl (Nat.le_of_ble_eq_true rfl) dX9_takeLooped_10 ⟨Nat.zero_le _, Nat.zero_le _⟩) (fun H locs hI => ?_)
      clear hr_2
      refine lv_if_eq (tgt := 45) Γ.1.1 Γ.1.2.1 dX9_takeLooped_13 (by decide) (fun c_4 => ?_) (fun c_4 => ?_)
      · replace h := ite_pos c_4 h; clear c_4
        obtain ⟨v1_5, e_v1_5, h⟩ := nm_some h
        refine lv_iinc (v := v1_5) (lv' := [(1, .int v1_5), (0, .ref (X.2.1 + 8))]) Γ.1.1 Γ.1.2.1 dX9_takeLooped_45 hl (k := 1) rfl (by rw [e_v1_5]; rfl) (by decide) rfl (fun ls hl => ?_)
        clear e_v1_5
        refine lv_goto (tgt := 2) Γ.1.1 Γ.1.2.1 dX9_takeLooped_48 (by decide) ?_
        exact ih σ v1_5 _ _ _ hI (lv_sub hl [1, 0] rfl) h
      · replace h := ite_neg c_4 h; clear c_4
        refine lv_aload_n Γ.1.1 Γ.1.2.1 dX9_takeLooped_16 rfl (lv_at hl 0 rfl) ?_
        refine lv_iload_n Γ.1.1 Γ.1.2.1 dX9_takeLooped_17 rfl (lv_at hl 1 rfl) ?_
        refine lv_iload_n Γ.1.1 Γ.1.2.1 dX9_takeLooped_18 rfl (lv_at hl 1 rfl) ?_
        obtain ⟨r_6, hr_6, h⟩ := ob_some h
        refine g_ci Γ hI (g_runV (As := [.int v1, .int v1]) Γ hI (S_X3_linesOf l X σ 8 sh_8 v1 v1 r_6 hr_6) mf_X3_linesOf (recv_X3 sh_8 Γ hI) gw_177 rfl rfl ⟨Nat.le_of_ble_eq_true rfl, Nat.le_of_ble_eq_true rfl⟩ rfl hl.1 rfl (Nat.le_of_ble_eq_true rfl) dX9_takeLooped_19 ⟨Nat.zero_le _, Nat.zero_le _⟩) (fun H locs hI => ?_)
        clear hr_6
        refine lv_if_le (tgt := 45) Γ.1.1 Γ.1.2.1 dX9_takeLooped_22 (by decide) (fun c_8 => ?_) (fun c_8 => ?_)
        · replace h := ite_pos c_8 h; clear c_8
          obtain ⟨v1_9, e_v1_9, h⟩ := nm_some h
          refine lv_iinc (v := v1_9) (lv' := [(1, .int v1_9), (0, .ref (X.2.1 + 8))]) Γ.1.1 Γ.1.2.1 dX9_takeLooped_45 hl (k := 1) rfl (by rw [e_v1_9]; rfl) (by decide) rfl (fun ls hl => ?_)
          clear e_v1_9
          refine lv_goto (tgt := 2) Γ.1.1 Γ.1.2.1 dX9_takeLooped_48 (by decide) ?_
          exact ih σ v1_9 _ _ _ hI (lv_sub hl [1, 0] rfl) h
        · replace h := ite_neg c_8 h; clear c_8
          exact s_X9_takeLooped_L25 σr x Γ σ v1 _ _ _ hI hl h
set_option maxRecDepth 20000 in
set_option maxHeartbeats 4000000 in
theorem S_X9_takeLooped (l : Launch) (X : GX) (σ : GM) (σr : GM) (x : Int32) (h : f_X9_takeLooped σ = some (σr, x)) : gMet l yX9_takeLooped cX9_takeLooped 2 (some .int) ({ frames := 3, cells := 0, slots := 0, locals := 68 } : Room) X σ [.ref (X.2.1 + 8)] (gQi X σr x) := by
  unfold f_X9_takeLooped at h
  refine gMet_of (lv := [(0, .ref (X.2.1 + 8))]) (by decide) rfl (Nat.le_of_ble_eq_true rfl) rfl (fun p e s m below meth c H ls Γ hI hl => ?_)
  refine lv_iconst (v := (0 : Int32)) Γ.1.1 Γ.1.2.1 dX9_takeLooped_0 (by decide) ?_
  refine lv_istore_n (lv' := [(1, .int (0 : Int32)), (0, .ref (X.2.1 + 8))]) Γ.1.1 Γ.1.2.1 dX9_takeLooped_1 rfl hl (by decide) rfl (fun ls hl => ?_)
  exact s_X9_takeLooped_L2 σr x Γ _ σ (0 : Int32) _ _ _ hI (lv_sub hl [1, 0] rfl) h
set_option maxRecDepth 20000 in
set_option maxHeartbeats 4000000 in
theorem s_X9_removeTip_L2 {p : Program} {l : Launch} {e : Env} {s : State} {m : MethodId} {args : Array Value} {below : List Frame} {meth : Method} {c : Code} {X : GX} (σr : GM) (x : Int32) (Γ : gC X p m meth c cX9_removeTip 2 s args RX9 (some .int)) :
    ∀ (k : Nat) (σ : GM) (v1 : Int32) (H : Heap) (locs : List Loc) (ls : Array Slot), gI X σ s H locs → lv_has ls 2 [(0, .ref (X.2.1 + 8)), (1, .int v1)] → f_X9_removeTip_L2 k σ v1 = some (σr, x) →
    W p l e ({ frames := 3, cells := 0, slots := 0, locals := 68 } : Room) s m args below meth c H locs 0 0 (MQ below (gQi X σr x) args s 0 0 (gA X)) (F0 m 2 ls []) := by
  intro k
  induction k with
  | zero =>
    intro σ v1 H locs ls hI hl h
    exact absurd h (by simp [f_X9_removeTip_L2])
  | succ k ih =>
    intro σ v1 H locs ls hI hl h
    unfold f_X9_removeTip_L2 at h
    refine lv_iload_n Γ.1.1 Γ.1.2.1 dX9_removeTip_2 rfl (lv_at hl 1 rfl) ?_
    refine lv_bipush (v := (12 : Int32)) Γ.1.1 Γ.1.2.1 dX9_removeTip_3 (by decide) ?_
    refine lv_icmp_ge (tgt := 43) Γ.1.1 Γ.1.2.1 dX9_removeTip_5 (by decide) (fun c_1 => ?_) (fun c_1 => ?_)
    · replace h := ite_pos c_1 h; clear c_1
      refine lv_iconst (v := (-1 : Int32)) Γ.1.1 Γ.1.2.1 dX9_removeTip_43 (by decide) ?_
      exact g_iret Γ hI dX9_removeTip_44 (Prod.mk.inj (Option.some.inj h)).1 (Prod.mk.inj (Option.some.inj h)).2
    · replace h := ite_neg c_1 h; clear c_1
      refine lv_aload_n Γ.1.1 Γ.1.2.1 dX9_removeTip_8 rfl (lv_at hl 0 rfl) ?_
      refine lv_iload_n Γ.1.1 Γ.1.2.1 dX9_removeTip_9 rfl (lv_at hl 1 rfl) ?_
      obtain ⟨r_2, hr_2, h⟩ := ob_some h
      refine g_ci Γ hI (g_runV (As := [.int v1]) Γ hI (S_X3_isThere l X σ 8 sh_8 v1 r_2 hr_2) mf_X3_isThere (recv_X3 sh_8 Γ hI) gw_176 rfl rfl ⟨Nat.le_of_ble_eq_true rfl, Nat.le_of_ble_eq_true rfl⟩ rfl hl.1 rfl (Nat.le_of_ble_eq_true rfl) dX9_removeTip_10 ⟨Nat.zero_le _, Nat.zero_le _⟩) (fun H locs hI => ?_)
      clear hr_2
      refine lv_if_eq (tgt := 37) Γ.1.1 Γ.1.2.1 dX9_removeTip_13 (by decide) (fun c_4 => ?_) (fun c_4 => ?_)
      · replace h := ite_pos c_4 h; clear c_4
        obtain ⟨v1_5, e_v1_5, h⟩ := nm_some h
        refine lv_iinc (v := v1_5) (lv' := [(1, .int v1_5), (0, .ref (X.2.1 + 8))]) Γ.1.1 Γ.1.2.1 dX9_removeTip_37 hl (k := 1) rfl (by rw [e_v1_5]; rfl) (by decide) rfl (fun ls hl => ?_)
        clear e_v1_5
        refine lv_goto (tgt := 2) Γ.1.1 Γ.1.2.1 dX9_removeTip_40 (by decide) ?_
        exact ih σ v1_5 _ _ _ hI (lv_sub hl [1, 0] rfl) h
      · replace h := ite_neg c_4 h; clear c_4
        refine lv_aload_n Γ.1.1 Γ.1.2.1 dX9_removeTip_16 rfl (lv_at hl 0 rfl) ?_
        refine lv_iload_n Γ.1.1 Γ.1.2.1 dX9_removeTip_17 rfl (lv_at hl 1 rfl) ?_
        refine lv_aload_n Γ.1.1 Γ.1.2.1 dX9_removeTip_18 rfl (lv_at hl 0 rfl) ?_
        refine get_X3_there sh_8 Γ hI gw_180 dX9_removeTip_19 ?_
        obtain ⟨r_6, hr_6, h⟩ := ob_some h
        refine g_ci Γ hI (g_runV (As := [.int v1, .int (σ.1 8 3)]) Γ hI (S_X3_endsIn l X σ 8 sh_8 v1 (σ.1 8 3) r_6 hr_6) mf_X3_endsIn (recv_X3 sh_8 Γ hI) gw_181 rfl rfl ⟨Nat.le_of_ble_eq_true rfl, Nat.le_of_ble_eq_true rfl⟩ rfl hl.1 rfl (Nat.le_of_ble_eq_true rfl) dX9_removeTip_22 ⟨Nat.zero_le _, Nat.zero_le _⟩) (fun H locs hI => ?_)
        clear hr_6
        refine lv_iconst (v := (1 : Int32)) Γ.1.1 Γ.1.2.1 dX9_removeTip_25 (by decide) ?_
        refine lv_icmp_gt (tgt := 37) Γ.1.1 Γ.1.2.1 dX9_removeTip_26 (by decide) (fun c_8 => ?_) (fun c_8 => ?_)
        · replace h := ite_pos c_8 h; clear c_8
          obtain ⟨v1_9, e_v1_9, h⟩ := nm_some h
          refine lv_iinc (v := v1_9) (lv' := [(1, .int v1_9), (0, .ref (X.2.1 + 8))]) Γ.1.1 Γ.1.2.1 dX9_removeTip_37 hl (k := 1) rfl (by rw [e_v1_9]; rfl) (by decide) rfl (fun ls hl => ?_)
          clear e_v1_9
          refine lv_goto (tgt := 2) Γ.1.1 Γ.1.2.1 dX9_removeTip_40 (by decide) ?_
          exact ih σ v1_9 _ _ _ hI (lv_sub hl [1, 0] rfl) h
        · replace h := ite_neg c_8 h; clear c_8
          refine lv_aload_n Γ.1.1 Γ.1.2.1 dX9_removeTip_29 rfl (lv_at hl 0 rfl) ?_
          refine lv_iload_n Γ.1.1 Γ.1.2.1 dX9_removeTip_30 rfl (lv_at hl 1 rfl) ?_
          obtain ⟨σ_11, r_10, hr_10, h⟩ := ob2_some h
          refine g_ci Γ hI (g_runV (As := [.int v1]) Γ hI (S_X3_remove l X σ 8 sh_8 v1 σ_11 r_10 hr_10) mf_X3_remove (recv_X3 sh_8 Γ hI) gw_178 rfl rfl ⟨Nat.le_of_ble_eq_true rfl, Nat.le_of_ble_eq_true rfl⟩ rfl hl.1 rfl (Nat.le_of_ble_eq_true rfl) dX9_removeTip_31 ⟨Nat.zero_le _, Nat.zero_le _⟩) (fun H locs hI => ?_)
          clear hr_10
          refine lv_pop Γ.1.1 Γ.1.2.1 dX9_removeTip_34 rfl ?_
          refine lv_iload_n Γ.1.1 Γ.1.2.1 dX9_removeTip_35 rfl (lv_at hl 1 rfl) ?_
          exact g_iret Γ hI dX9_removeTip_36 (Prod.mk.inj (Option.some.inj h)).1 (Prod.mk.inj (Option.some.inj h)).2
set_option maxRecDepth 20000 in
set_option maxHeartbeats 4000000 in
theorem S_X9_removeTip (l : Launch) (X : GX) (σ : GM) (σr : GM) (x : Int32) (h : f_X9_removeTip σ = some (σr, x)) : gMet l yX9_removeTip cX9_removeTip 2 (some .int) ({ frames := 3, cells := 0, slots := 0, locals := 68 } : Room) X σ [.ref (X.2.1 + 8)] (gQi X σr x) := by
  unfold f_X9_removeTip at h
  refine gMet_of (lv := [(0, .ref (X.2.1 + 8))]) (by decide) rfl (Nat.le_of_ble_eq_true rfl) rfl (fun p e s m below meth c H ls Γ hI hl => ?_)
  refine lv_iconst (v := (0 : Int32)) Γ.1.1 Γ.1.2.1 dX9_removeTip_0 (by decide) ?_
  refine lv_istore_n (lv' := [(1, .int (0 : Int32)), (0, .ref (X.2.1 + 8))]) Γ.1.1 Γ.1.2.1 dX9_removeTip_1 rfl hl (by decide) rfl (fun ls hl => ?_)
  exact s_X9_removeTip_L2 σr x Γ _ σ (0 : Int32) _ _ _ hI (lv_sub hl [1, 0] rfl) h
set_option maxRecDepth 20000 in
set_option maxHeartbeats 4000000 in
theorem s_X9_thinLines_L12 {p : Program} {l : Launch} {e : Env} {s : State} {m : MethodId} {args : Array Value} {below : List Frame} {meth : Method} {c : Code} {X : GX} (σr : GM) (x : Int32) (Γ : gC X p m meth c cX9_thinLines 3 s args RX9 (some .int)) (v1 : Int32) (k2 : GM → Int32 → Option (GM × Int32)) (hk2 : ∀ (σ : GM) (v1 : Int32) (H : Heap) (locs : List Loc) (ls : Array Slot), gI X σ s H locs → lv_has ls 3 [(0, .ref (X.2.1 + 8)), (1, .int v1)] → k2 σ v1 = some (σr, x) → W p l e ({ frames := 2, cells := 0, slots := 0, locals := 46 } : Room) s m args below meth c H locs 0 0 (MQ below (gQi X σr x) args s 0 0 (gA X)) (F0 m 2 ls [])) :
    ∀ (k : Nat) (σ : GM) (v2 : Int32) (H : Heap) (locs : List Loc) (ls : Array Slot), gI X σ s H locs → lv_has ls 3 [(0, .ref (X.2.1 + 8)), (1, .int v1), (2, .int v2)] → f_X9_thinLines_L12 k2 v1 k σ v2 = some (σr, x) →
    W p l e ({ frames := 2, cells := 0, slots := 0, locals := 46 } : Room) s m args below meth c H locs 0 0 (MQ below (gQi X σr x) args s 0 0 (gA X)) (F0 m 12 ls []) := by
  intro k
  induction k with
  | zero =>
    intro σ v2 H locs ls hI hl h
    exact absurd h (by simp [f_X9_thinLines_L12])
  | succ k ih =>
    intro σ v2 H locs ls hI hl h
    unfold f_X9_thinLines_L12 at h
    refine lv_iload_n Γ.1.1 Γ.1.2.1 dX9_thinLines_12 rfl (lv_at hl 2 rfl) ?_
    refine lv_bipush (v := (12 : Int32)) Γ.1.1 Γ.1.2.1 dX9_thinLines_13 (by decide) ?_
    refine lv_icmp_ge (tgt := 43) Γ.1.1 Γ.1.2.1 dX9_thinLines_15 (by decide) (fun c_3 => ?_) (fun c_3 => ?_)
    · replace h := ite_pos c_3 h; clear c_3
      obtain ⟨v1_4, e_v1_4, h⟩ := nm_some h
      refine lv_iinc (v := v1_4) (lv' := [(1, .int v1_4), (0, .ref (X.2.1 + 8)), (2, .int v2)]) Γ.1.1 Γ.1.2.1 dX9_thinLines_43 hl (k := 1) rfl (by rw [e_v1_4]; rfl) (by decide) rfl (fun ls hl => ?_)
      clear e_v1_4
      refine lv_goto (tgt := 2) Γ.1.1 Γ.1.2.1 dX9_thinLines_46 (by decide) ?_
      exact hk2 σ v1_4 _ _ _ hI (lv_sub hl [1, 0] rfl) h
    · replace h := ite_neg c_3 h; clear c_3
      refine lv_aload_n Γ.1.1 Γ.1.2.1 dX9_thinLines_18 rfl (lv_at hl 0 rfl) ?_
      refine lv_iload_n Γ.1.1 Γ.1.2.1 dX9_thinLines_19 rfl (lv_at hl 1 rfl) ?_
      refine lv_iload_n Γ.1.1 Γ.1.2.1 dX9_thinLines_20 rfl (lv_at hl 2 rfl) ?_
      obtain ⟨r_5, hr_5, h⟩ := ob_some h
      refine g_ci Γ hI (g_runV (As := [.int v1, .int v2]) Γ hI (S_X3_linesOf l X σ 8 sh_8 v1 v2 r_5 hr_5) mf_X3_linesOf (recv_X3 sh_8 Γ hI) gw_177 rfl rfl ⟨Nat.le_of_ble_eq_true rfl, Nat.le_of_ble_eq_true rfl⟩ rfl hl.1 rfl (Nat.le_of_ble_eq_true rfl) dX9_thinLines_21 ⟨Nat.zero_le _, Nat.zero_le _⟩) (fun H locs hI => ?_)
      clear hr_5
      refine lv_iconst (v := (2 : Int32)) Γ.1.1 Γ.1.2.1 dX9_thinLines_24 (by decide) ?_
      refine lv_icmp_le (tgt := 37) Γ.1.1 Γ.1.2.1 dX9_thinLines_25 (by decide) (fun c_7 => ?_) (fun c_7 => ?_)
      · replace h := ite_pos c_7 h; clear c_7
        obtain ⟨v2_8, e_v2_8, h⟩ := nm_some h
        refine lv_iinc (v := v2_8) (lv' := [(2, .int v2_8), (0, .ref (X.2.1 + 8)), (1, .int v1)]) Γ.1.1 Γ.1.2.1 dX9_thinLines_37 hl (k := 2) rfl (by rw [e_v2_8]; rfl) (by decide) rfl (fun ls hl => ?_)
        clear e_v2_8
        refine lv_goto (tgt := 12) Γ.1.1 Γ.1.2.1 dX9_thinLines_40 (by decide) ?_
        exact ih σ v2_8 _ _ _ hI (lv_sub hl [1, 2, 0] rfl) h
      · replace h := ite_neg c_7 h; clear c_7
        refine lv_aload_n Γ.1.1 Γ.1.2.1 dX9_thinLines_28 rfl (lv_at hl 0 rfl) ?_
        refine lv_iload_n Γ.1.1 Γ.1.2.1 dX9_thinLines_29 rfl (lv_at hl 1 rfl) ?_
        refine lv_iload_n Γ.1.1 Γ.1.2.1 dX9_thinLines_30 rfl (lv_at hl 2 rfl) ?_
        refine lv_iconst (v := (2 : Int32)) Γ.1.1 Γ.1.2.1 dX9_thinLines_31 (by decide) ?_
        obtain ⟨σ_10, hr_9, h⟩ := ob_some h
        refine g_cv Γ hI (g_runV (As := [.int v1, .int v2, .int (2 : Int32)]) Γ hI (S_X3_setLines l X σ 8 sh_8 v1 v2 (2 : Int32) σ_10 hr_9) mf_X3_setLines (recv_X3 sh_8 Γ hI) gw_182 rfl rfl ⟨Nat.le_of_ble_eq_true rfl, Nat.le_of_ble_eq_true rfl⟩ rfl hl.1 rfl (Nat.le_of_ble_eq_true rfl) dX9_thinLines_32 ⟨Nat.zero_le _, Nat.zero_le _⟩) (fun H locs hI => ?_)
        clear hr_9
        refine lv_iload_n Γ.1.1 Γ.1.2.1 dX9_thinLines_35 rfl (lv_at hl 1 rfl) ?_
        exact g_iret Γ hI dX9_thinLines_36 (Prod.mk.inj (Option.some.inj h)).1 (Prod.mk.inj (Option.some.inj h)).2
set_option maxRecDepth 20000 in
set_option maxHeartbeats 4000000 in
theorem s_X9_thinLines_L2 {p : Program} {l : Launch} {e : Env} {s : State} {m : MethodId} {args : Array Value} {below : List Frame} {meth : Method} {c : Code} {X : GX} (σr : GM) (x : Int32) (Γ : gC X p m meth c cX9_thinLines 3 s args RX9 (some .int)) :
    ∀ (k : Nat) (σ : GM) (v1 : Int32) (H : Heap) (locs : List Loc) (ls : Array Slot), gI X σ s H locs → lv_has ls 3 [(0, .ref (X.2.1 + 8)), (1, .int v1)] → f_X9_thinLines_L2 k σ v1 = some (σr, x) →
    W p l e ({ frames := 2, cells := 0, slots := 0, locals := 46 } : Room) s m args below meth c H locs 0 0 (MQ below (gQi X σr x) args s 0 0 (gA X)) (F0 m 2 ls []) := by
  intro k
  induction k with
  | zero =>
    intro σ v1 H locs ls hI hl h
    exact absurd h (by simp [f_X9_thinLines_L2])
  | succ k ih =>
    intro σ v1 H locs ls hI hl h
    unfold f_X9_thinLines_L2 at h
    refine lv_iload_n Γ.1.1 Γ.1.2.1 dX9_thinLines_2 rfl (lv_at hl 1 rfl) ?_
    refine lv_bipush (v := (12 : Int32)) Γ.1.1 Γ.1.2.1 dX9_thinLines_3 (by decide) ?_
    refine lv_icmp_ge (tgt := 49) Γ.1.1 Γ.1.2.1 dX9_thinLines_5 (by decide) (fun c_1 => ?_) (fun c_1 => ?_)
    · replace h := ite_pos c_1 h; clear c_1
      refine lv_iconst (v := (-1 : Int32)) Γ.1.1 Γ.1.2.1 dX9_thinLines_49 (by decide) ?_
      exact g_iret Γ hI dX9_thinLines_50 (Prod.mk.inj (Option.some.inj h)).1 (Prod.mk.inj (Option.some.inj h)).2
    · replace h := ite_neg c_1 h; clear c_1
      refine lv_iload_n Γ.1.1 Γ.1.2.1 dX9_thinLines_8 rfl (lv_at hl 1 rfl) ?_
      refine lv_iconst (v := (1 : Int32)) Γ.1.1 Γ.1.2.1 dX9_thinLines_9 (by decide) ?_
      refine lv_iadd Γ.1.1 Γ.1.2.1 dX9_thinLines_10 ?_
      refine lv_topi (fun v2_2 e_v2_2 => ?_)
      replace h := nm_at e_v2_2 h; clear e_v2_2
      refine lv_istore_n (lv' := [(2, .int v2_2), (0, .ref (X.2.1 + 8)), (1, .int v1)]) Γ.1.1 Γ.1.2.1 dX9_thinLines_11 rfl hl (by decide) rfl (fun ls hl => ?_)
      exact s_X9_thinLines_L12 σr x Γ v1 _ ih _ σ v2_2 _ _ _ hI (lv_sub hl [1, 2, 0] rfl) h
set_option maxRecDepth 20000 in
set_option maxHeartbeats 4000000 in
theorem S_X9_thinLines (l : Launch) (X : GX) (σ : GM) (σr : GM) (x : Int32) (h : f_X9_thinLines σ = some (σr, x)) : gMet l yX9_thinLines cX9_thinLines 3 (some .int) ({ frames := 2, cells := 0, slots := 0, locals := 46 } : Room) X σ [.ref (X.2.1 + 8)] (gQi X σr x) := by
  unfold f_X9_thinLines at h
  refine gMet_of (lv := [(0, .ref (X.2.1 + 8))]) (by decide) rfl (Nat.le_of_ble_eq_true rfl) rfl (fun p e s m below meth c H ls Γ hI hl => ?_)
  refine lv_iconst (v := (0 : Int32)) Γ.1.1 Γ.1.2.1 dX9_thinLines_0 (by decide) ?_
  refine lv_istore_n (lv' := [(1, .int (0 : Int32)), (0, .ref (X.2.1 + 8))]) Γ.1.1 Γ.1.2.1 dX9_thinLines_1 rfl hl (by decide) rfl (fun ls hl => ?_)
  exact s_X9_thinLines_L2 σr x Γ _ σ (0 : Int32) _ _ _ hI (lv_sub hl [1, 0] rfl) h
set_option maxRecDepth 20000 in
set_option maxHeartbeats 4000000 in
theorem s_X9_passBy_L82 {p : Program} {l : Launch} {e : Env} {s : State} {m : MethodId} {args : Array Value} {below : List Frame} {meth : Method} {c : Code} {X : GX} (σr : GM) (x : Int32) (Γ : gC X p m meth c cX9_passBy 5 s args RX9 (some .int)) :
    ∀ (σ : GM) (v1 : Int32) (v3 : Int32) (v4 : Int32) (H : Heap) (locs : List Loc) (ls : Array Slot), gI X σ s H locs → lv_has ls 5 [(0, .ref (X.2.1 + 8)), (1, .int v1), (3, .int v3), (4, .int v4)] → f_X9_passBy_L82 σ v1 v3 v4 = some (σr, x) →
    W p l e ({ frames := 3, cells := 0, slots := 0, locals := 70 } : Room) s m args below meth c H locs 0 0 (MQ below (gQi X σr x) args s 0 0 (gA X)) (F0 m 82 ls []) := by
  intro σ v1 v3 v4 H locs ls hI hl h
  unfold f_X9_passBy_L82 at h
  refine lv_aload_n Γ.1.1 Γ.1.2.1 dX9_passBy_82 rfl (lv_at hl 0 rfl) ?_
  refine lv_iload_n Γ.1.1 Γ.1.2.1 dX9_passBy_83 rfl (lv_at hl 1 rfl) ?_
  obtain ⟨σ_26, r_25, hr_25, h⟩ := ob2_some h
  refine g_ci Γ hI (g_runV (As := [.int v1]) Γ hI (S_X3_remove l X σ 8 sh_8 v1 σ_26 r_25 hr_25) mf_X3_remove (recv_X3 sh_8 Γ hI) gw_178 rfl rfl ⟨Nat.le_of_ble_eq_true rfl, Nat.le_of_ble_eq_true rfl⟩ rfl hl.1 rfl (Nat.le_of_ble_eq_true rfl) dX9_passBy_84 ⟨Nat.zero_le _, Nat.zero_le _⟩) (fun H locs hI => ?_)
  clear hr_25
  refine lv_pop Γ.1.1 Γ.1.2.1 dX9_passBy_87 rfl ?_
  refine lv_aload_n Γ.1.1 Γ.1.2.1 dX9_passBy_88 rfl (lv_at hl 0 rfl) ?_
  refine lv_iload_n Γ.1.1 Γ.1.2.1 dX9_passBy_89 rfl (lv_at hl 2 rfl) ?_
  refine lv_iload Γ.1.1 Γ.1.2.1 dX9_passBy_90 (lv_at hl 3 rfl) ?_
  obtain ⟨σ_28, r_27, hr_27, h⟩ := ob2_some h
  refine g_ci Γ hI (g_runV (As := [.int v3, .int v4]) Γ hI (S_X3_addLine l X σ_26 8 sh_8 v3 v4 σ_28 r_27 hr_27) mf_X3_addLine (recv_X3 sh_8 Γ hI) gw_187 rfl rfl ⟨Nat.le_of_ble_eq_true rfl, Nat.le_of_ble_eq_true rfl⟩ rfl hl.1 rfl (Nat.le_of_ble_eq_true rfl) dX9_passBy_92 ⟨Nat.zero_le _, Nat.zero_le _⟩) (fun H locs hI => ?_)
  clear hr_27
  refine lv_pop Γ.1.1 Γ.1.2.1 dX9_passBy_95 rfl ?_
  refine lv_iload_n Γ.1.1 Γ.1.2.1 dX9_passBy_96 rfl (lv_at hl 1 rfl) ?_
  exact g_iret Γ hI dX9_passBy_97 (Prod.mk.inj (Option.some.inj h)).1 (Prod.mk.inj (Option.some.inj h)).2
set_option maxRecDepth 20000 in
set_option maxHeartbeats 4000000 in
theorem s_X9_passBy_L60 {p : Program} {l : Launch} {e : Env} {s : State} {m : MethodId} {args : Array Value} {below : List Frame} {meth : Method} {c : Code} {X : GX} (σr : GM) (x : Int32) (Γ : gC X p m meth c cX9_passBy 5 s args RX9 (some .int)) (k2 : GM → Int32 → Option (GM × Int32)) (hk2 : ∀ (σ : GM) (v1 : Int32) (H : Heap) (locs : List Loc) (ls : Array Slot), gI X σ s H locs → lv_has ls 5 [(0, .ref (X.2.1 + 8)), (1, .int v1)] → k2 σ v1 = some (σr, x) → W p l e ({ frames := 3, cells := 0, slots := 0, locals := 70 } : Room) s m args below meth c H locs 0 0 (MQ below (gQi X σr x) args s 0 0 (gA X)) (F0 m 2 ls [])) :
    ∀ (σ : GM) (v1 : Int32) (v3 : Int32) (v4 : Int32) (H : Heap) (locs : List Loc) (ls : Array Slot), gI X σ s H locs → lv_has ls 5 [(0, .ref (X.2.1 + 8)), (1, .int v1), (3, .int v3), (4, .int v4)] → f_X9_passBy_L60 k2 σ v1 v3 v4 = some (σr, x) →
    W p l e ({ frames := 3, cells := 0, slots := 0, locals := 70 } : Room) s m args below meth c H locs 0 0 (MQ below (gQi X σr x) args s 0 0 (gA X)) (F0 m 60 ls []) := by
  intro σ v1 v3 v4 H locs ls hI hl h
  unfold f_X9_passBy_L60 at h
  refine lv_aload_n Γ.1.1 Γ.1.2.1 dX9_passBy_60 rfl (lv_at hl 0 rfl) ?_
  refine lv_iload_n Γ.1.1 Γ.1.2.1 dX9_passBy_61 rfl (lv_at hl 1 rfl) ?_
  obtain ⟨r_17, hr_17, h⟩ := ob_some h
  refine g_ci Γ hI (g_runV (As := [.int v1]) Γ hI (S_X3_weightOf l X σ 8 sh_8 v1 r_17 hr_17) mf_X3_weightOf (recv_X3 sh_8 Γ hI) gw_185 rfl rfl ⟨Nat.le_of_ble_eq_true rfl, Nat.le_of_ble_eq_true rfl⟩ rfl hl.1 rfl (Nat.le_of_ble_eq_true rfl) dX9_passBy_62 ⟨Nat.zero_le _, Nat.zero_le _⟩) (fun H locs hI => ?_)
  clear hr_17
  refine lv_aload_n Γ.1.1 Γ.1.2.1 dX9_passBy_65 rfl (lv_at hl 0 rfl) ?_
  refine lv_iload_n Γ.1.1 Γ.1.2.1 dX9_passBy_66 rfl (lv_at hl 2 rfl) ?_
  obtain ⟨r_19, hr_19, h⟩ := ob_some h
  refine g_ci Γ hI (g_runV (As := [.int v3]) Γ hI (S_X3_weightOf l X σ 8 sh_8 v3 r_19 hr_19) mf_X3_weightOf (recv_X3 sh_8 Γ hI) gw_185 rfl rfl ⟨Nat.le_of_ble_eq_true rfl, Nat.le_of_ble_eq_true rfl⟩ rfl hl.1 rfl (Nat.le_of_ble_eq_true rfl) dX9_passBy_67 ⟨Nat.zero_le _, Nat.zero_le _⟩) (fun H locs hI => ?_)
  clear hr_19
  refine lv_aload_n Γ.1.1 Γ.1.2.1 dX9_passBy_70 rfl (lv_at hl 0 rfl) ?_
  refine lv_iload Γ.1.1 Γ.1.2.1 dX9_passBy_71 (lv_at hl 3 rfl) ?_
  obtain ⟨r_21, hr_21, h⟩ := ob_some h
  refine g_ci Γ hI (g_runV (As := [.int v4]) Γ hI (S_X3_weightOf l X σ 8 sh_8 v4 r_21 hr_21) mf_X3_weightOf (recv_X3 sh_8 Γ hI) gw_185 rfl rfl ⟨Nat.le_of_ble_eq_true rfl, Nat.le_of_ble_eq_true rfl⟩ rfl hl.1 rfl (Nat.le_of_ble_eq_true rfl) dX9_passBy_73 ⟨Nat.zero_le _, Nat.zero_le _⟩) (fun H locs hI => ?_)
  clear hr_21
  refine va_mmin Γ.1.1 Γ.1.2.1 (Γ.1.2.2.1.trans hl.1.symm) Γ.1.2.2.2.1 (Γ.1.2.2.2.2 _ gw_186) (Γ.1.2.2.2.2 _ gw_43) (Γ.1.2.2.2.2 _ gw_35) (Γ.1.2.2.2.2 _ gw_44) (Nat.le_of_ble_eq_true rfl) (Nat.le_of_ble_eq_true rfl) (Nat.zero_le _) (Nat.zero_le _) dX9_passBy_76 ?_
  refine lv_icmp_lt (tgt := 98) Γ.1.1 Γ.1.2.1 dX9_passBy_79 (by decide) (fun c_23 => ?_) (fun c_23 => ?_)
  · replace h := ite_pos c_23 h; clear c_23
    obtain ⟨v1_24, e_v1_24, h⟩ := nm_some h
    refine lv_iinc (v := v1_24) (lv' := [(1, .int v1_24), (0, .ref (X.2.1 + 8)), (3, .int v3), (4, .int v4)]) Γ.1.1 Γ.1.2.1 dX9_passBy_98 hl (k := 1) rfl (by rw [e_v1_24]; rfl) (by decide) rfl (fun ls hl => ?_)
    clear e_v1_24
    refine lv_goto (tgt := 2) Γ.1.1 Γ.1.2.1 dX9_passBy_101 (by decide) ?_
    exact hk2 σ v1_24 _ _ _ hI (lv_sub hl [1, 0] rfl) h
  · replace h := ite_neg c_23 h; clear c_23
    exact s_X9_passBy_L82 σr x Γ σ v1 v3 v4 _ _ _ hI hl h
set_option maxRecDepth 20000 in
set_option maxHeartbeats 4000000 in
theorem s_X9_passBy_L2 {p : Program} {l : Launch} {e : Env} {s : State} {m : MethodId} {args : Array Value} {below : List Frame} {meth : Method} {c : Code} {X : GX} (σr : GM) (x : Int32) (Γ : gC X p m meth c cX9_passBy 5 s args RX9 (some .int)) :
    ∀ (k : Nat) (σ : GM) (v1 : Int32) (H : Heap) (locs : List Loc) (ls : Array Slot), gI X σ s H locs → lv_has ls 5 [(0, .ref (X.2.1 + 8)), (1, .int v1)] → f_X9_passBy_L2 k σ v1 = some (σr, x) →
    W p l e ({ frames := 3, cells := 0, slots := 0, locals := 70 } : Room) s m args below meth c H locs 0 0 (MQ below (gQi X σr x) args s 0 0 (gA X)) (F0 m 2 ls []) := by
  intro k
  induction k with
  | zero =>
    intro σ v1 H locs ls hI hl h
    exact absurd h (by simp [f_X9_passBy_L2])
  | succ k ih =>
    intro σ v1 H locs ls hI hl h
    unfold f_X9_passBy_L2 at h
    refine lv_iload_n Γ.1.1 Γ.1.2.1 dX9_passBy_2 rfl (lv_at hl 1 rfl) ?_
    refine lv_bipush (v := (12 : Int32)) Γ.1.1 Γ.1.2.1 dX9_passBy_3 (by decide) ?_
    refine lv_icmp_ge (tgt := 104) Γ.1.1 Γ.1.2.1 dX9_passBy_5 (by decide) (fun c_1 => ?_) (fun c_1 => ?_)
    · replace h := ite_pos c_1 h; clear c_1
      refine lv_iconst (v := (-1 : Int32)) Γ.1.1 Γ.1.2.1 dX9_passBy_104 (by decide) ?_
      exact g_iret Γ hI dX9_passBy_105 (Prod.mk.inj (Option.some.inj h)).1 (Prod.mk.inj (Option.some.inj h)).2
    · replace h := ite_neg c_1 h; clear c_1
      refine lv_aload_n Γ.1.1 Γ.1.2.1 dX9_passBy_8 rfl (lv_at hl 0 rfl) ?_
      refine lv_iload_n Γ.1.1 Γ.1.2.1 dX9_passBy_9 rfl (lv_at hl 1 rfl) ?_
      obtain ⟨r_2, hr_2, h⟩ := ob_some h
      refine g_ci Γ hI (g_runV (As := [.int v1]) Γ hI (S_X3_isThere l X σ 8 sh_8 v1 r_2 hr_2) mf_X3_isThere (recv_X3 sh_8 Γ hI) gw_176 rfl rfl ⟨Nat.le_of_ble_eq_true rfl, Nat.le_of_ble_eq_true rfl⟩ rfl hl.1 rfl (Nat.le_of_ble_eq_true rfl) dX9_passBy_10 ⟨Nat.zero_le _, Nat.zero_le _⟩) (fun H locs hI => ?_)
      clear hr_2
      refine lv_if_eq (tgt := 98) Γ.1.1 Γ.1.2.1 dX9_passBy_13 (by decide) (fun c_4 => ?_) (fun c_4 => ?_)
      · replace h := ite_pos c_4 h; clear c_4
        obtain ⟨v1_5, e_v1_5, h⟩ := nm_some h
        refine lv_iinc (v := v1_5) (lv' := [(1, .int v1_5), (0, .ref (X.2.1 + 8))]) Γ.1.1 Γ.1.2.1 dX9_passBy_98 hl (k := 1) rfl (by rw [e_v1_5]; rfl) (by decide) rfl (fun ls hl => ?_)
        clear e_v1_5
        refine lv_goto (tgt := 2) Γ.1.1 Γ.1.2.1 dX9_passBy_101 (by decide) ?_
        exact ih σ v1_5 _ _ _ hI (lv_sub hl [1, 0] rfl) h
      · replace h := ite_neg c_4 h; clear c_4
        refine lv_aload_n Γ.1.1 Γ.1.2.1 dX9_passBy_16 rfl (lv_at hl 0 rfl) ?_
        refine lv_iload_n Γ.1.1 Γ.1.2.1 dX9_passBy_17 rfl (lv_at hl 1 rfl) ?_
        refine lv_aload_n Γ.1.1 Γ.1.2.1 dX9_passBy_18 rfl (lv_at hl 0 rfl) ?_
        refine get_X3_there sh_8 Γ hI gw_180 dX9_passBy_19 ?_
        obtain ⟨r_6, hr_6, h⟩ := ob_some h
        refine g_ci Γ hI (g_runV (As := [.int v1, .int (σ.1 8 3)]) Γ hI (S_X3_endsIn l X σ 8 sh_8 v1 (σ.1 8 3) r_6 hr_6) mf_X3_endsIn (recv_X3 sh_8 Γ hI) gw_181 rfl rfl ⟨Nat.le_of_ble_eq_true rfl, Nat.le_of_ble_eq_true rfl⟩ rfl hl.1 rfl (Nat.le_of_ble_eq_true rfl) dX9_passBy_22 ⟨Nat.zero_le _, Nat.zero_le _⟩) (fun H locs hI => ?_)
        clear hr_6
        refine lv_iconst (v := (2 : Int32)) Γ.1.1 Γ.1.2.1 dX9_passBy_25 (by decide) ?_
        refine lv_icmp_ne (tgt := 98) Γ.1.1 Γ.1.2.1 dX9_passBy_26 (by decide) (fun c_8 => ?_) (fun c_8 => ?_)
        · replace h := ite_neg c_8 h; clear c_8
          obtain ⟨v1_9, e_v1_9, h⟩ := nm_some h
          refine lv_iinc (v := v1_9) (lv' := [(1, .int v1_9), (0, .ref (X.2.1 + 8))]) Γ.1.1 Γ.1.2.1 dX9_passBy_98 hl (k := 1) rfl (by rw [e_v1_9]; rfl) (by decide) rfl (fun ls hl => ?_)
          clear e_v1_9
          refine lv_goto (tgt := 2) Γ.1.1 Γ.1.2.1 dX9_passBy_101 (by decide) ?_
          exact ih σ v1_9 _ _ _ hI (lv_sub hl [1, 0] rfl) h
        · replace h := ite_pos c_8 h; clear c_8
          refine lv_aload_n Γ.1.1 Γ.1.2.1 dX9_passBy_29 rfl (lv_at hl 0 rfl) ?_
          refine lv_iload_n Γ.1.1 Γ.1.2.1 dX9_passBy_30 rfl (lv_at hl 1 rfl) ?_
          refine lv_iconst (v := (1 : Int32)) Γ.1.1 Γ.1.2.1 dX9_passBy_31 (by decide) ?_
          obtain ⟨r_10, hr_10, h⟩ := ob_some h
          refine g_ci Γ hI (g_runV (As := [.int v1, .int (1 : Int32)]) Γ hI (S_X3_besides l X σ 8 sh_8 v1 (1 : Int32) r_10 hr_10) mf_X3_besides (recv_X3 sh_8 Γ hI) gw_183 rfl rfl ⟨Nat.le_of_ble_eq_true rfl, Nat.le_of_ble_eq_true rfl⟩ rfl hl.1 rfl (Nat.le_of_ble_eq_true rfl) dX9_passBy_32 ⟨Nat.zero_le _, Nat.zero_le _⟩) (fun H locs hI => ?_)
          clear hr_10
          refine lv_istore_n (lv' := [(2, .int r_10), (0, .ref (X.2.1 + 8)), (1, .int v1)]) Γ.1.1 Γ.1.2.1 dX9_passBy_35 rfl hl (by decide) rfl (fun ls hl => ?_)
          refine lv_iload_n Γ.1.1 Γ.1.2.1 dX9_passBy_36 rfl (lv_at hl 0 rfl) ?_
          obtain ⟨r_12, hr_12, h⟩ := ob_some h
          refine g_ci Γ hI (g_runS (As := [.int r_10]) Γ hI (S_X8_lowest l X σ r_10 r_12 hr_12) mf_X8_lowest gw_184 rfl rfl ⟨Nat.le_of_ble_eq_true rfl, Nat.le_of_ble_eq_true rfl⟩ rfl hl.1 rfl (Nat.le_of_ble_eq_true rfl) dX9_passBy_37 ⟨Nat.zero_le _, Nat.zero_le _⟩) (fun H locs hI => ?_)
          clear hr_12
          refine lv_istore_n (lv' := [(3, .int r_12), (2, .int r_10), (0, .ref (X.2.1 + 8)), (1, .int v1)]) Γ.1.1 Γ.1.2.1 dX9_passBy_40 rfl hl (by decide) rfl (fun ls hl => ?_)
          refine lv_iload_n Γ.1.1 Γ.1.2.1 dX9_passBy_41 rfl (lv_at hl 1 rfl) ?_
          refine lv_iload_n Γ.1.1 Γ.1.2.1 dX9_passBy_42 rfl (lv_at hl 1 rfl) ?_
          refine lv_iconst (v := (1 : Int32)) Γ.1.1 Γ.1.2.1 dX9_passBy_43 (by decide) ?_
          refine lv_isub Γ.1.1 Γ.1.2.1 dX9_passBy_44 ?_
          refine lv_iand Γ.1.1 Γ.1.2.1 dX9_passBy_45 ?_
          obtain ⟨r_14, hr_14, h⟩ := ob_some h
          refine g_ci Γ hI (g_runS (As := [.int (r_10 &&& (r_10 - (1 : Int32)))]) Γ hI (S_X8_lowest l X σ (r_10 &&& (r_10 - (1 : Int32))) r_14 hr_14) mf_X8_lowest gw_184 rfl rfl ⟨Nat.le_of_ble_eq_true rfl, Nat.le_of_ble_eq_true rfl⟩ rfl hl.1 rfl (Nat.le_of_ble_eq_true rfl) dX9_passBy_46 ⟨Nat.zero_le _, Nat.zero_le _⟩) (fun H locs hI => ?_)
          clear hr_14
          refine lv_istore (lv' := [(4, .int r_14), (3, .int r_12), (2, .int r_10), (0, .ref (X.2.1 + 8)), (1, .int v1)]) Γ.1.1 Γ.1.2.1 dX9_passBy_49 hl (by decide) rfl (fun ls hl => ?_)
          refine lv_iload Γ.1.1 Γ.1.2.1 dX9_passBy_51 (lv_at hl 0 rfl) ?_
          refine lv_iconst (v := (-1 : Int32)) Γ.1.1 Γ.1.2.1 dX9_passBy_53 (by decide) ?_
          refine lv_icmp_ne (tgt := 60) Γ.1.1 Γ.1.2.1 dX9_passBy_54 (by decide) (fun c_16 => ?_) (fun c_16 => ?_)
          · replace h := ite_neg c_16 h; clear c_16
            exact s_X9_passBy_L60 σr x Γ _ ih σ v1 r_12 r_14 _ _ _ hI (lv_sub hl [3, 4, 1, 0] rfl) h
          · replace h := ite_pos c_16 h; clear c_16
            refine lv_iload_n Γ.1.1 Γ.1.2.1 dX9_passBy_57 rfl (lv_at hl 1 rfl) ?_
            refine lv_istore (lv' := [(4, .int r_12), (3, .int r_12), (2, .int r_10), (0, .ref (X.2.1 + 8)), (1, .int v1)]) Γ.1.1 Γ.1.2.1 dX9_passBy_58 hl (by decide) rfl (fun ls hl => ?_)
            exact s_X9_passBy_L60 σr x Γ _ ih σ v1 r_12 r_12 _ _ _ hI (lv_sub hl [3, 4, 1, 0] rfl) h
set_option maxRecDepth 20000 in
set_option maxHeartbeats 4000000 in
theorem S_X9_passBy (l : Launch) (X : GX) (σ : GM) (σr : GM) (x : Int32) (h : f_X9_passBy σ = some (σr, x)) : gMet l yX9_passBy cX9_passBy 5 (some .int) ({ frames := 3, cells := 0, slots := 0, locals := 70 } : Room) X σ [.ref (X.2.1 + 8)] (gQi X σr x) := by
  unfold f_X9_passBy at h
  refine gMet_of (lv := [(0, .ref (X.2.1 + 8))]) (by decide) rfl (Nat.le_of_ble_eq_true rfl) rfl (fun p e s m below meth c H ls Γ hI hl => ?_)
  refine lv_iconst (v := (0 : Int32)) Γ.1.1 Γ.1.2.1 dX9_passBy_0 (by decide) ?_
  refine lv_istore_n (lv' := [(1, .int (0 : Int32)), (0, .ref (X.2.1 + 8))]) Γ.1.1 Γ.1.2.1 dX9_passBy_1 rfl hl (by decide) rfl (fun ls hl => ?_)
  exact s_X9_passBy_L2 σr x Γ _ σ (0 : Int32) _ _ _ hI (lv_sub hl [1, 0] rfl) h
set_option maxRecDepth 20000 in
set_option maxHeartbeats 4000000 in
theorem S_X9_step (l : Launch) (X : GX) (σ : GM) (σr : GM) (x : Int32) (h : f_X9_step σ = some (σr, x)) : gMet l yX9_step cX9_step 2 (some .int) ({ frames := 4, cells := 0, slots := 0, locals := 94 } : Room) X σ [.ref (X.2.1 + 8)] (gQi X σr x) := by
  unfold f_X9_step at h
  refine gMet_of (lv := [(0, .ref (X.2.1 + 8))]) (by decide) rfl (Nat.le_of_ble_eq_true rfl) rfl (fun p e s m below meth c H ls Γ hI hl => ?_)
  refine lv_aload_n Γ.1.1 Γ.1.2.1 dX9_step_0 rfl (lv_at hl 0 rfl) ?_
  obtain ⟨σ_2, r_1, hr_1, h⟩ := ob2_some h
  refine g_ci Γ hI (g_runS (As := [.ref (X.2.1 + 8)]) Γ hI (S_X9_takeLooped l X σ σ_2 r_1 hr_1) mf_X9_takeLooped gw_188 rfl rfl ⟨Nat.le_of_ble_eq_true rfl, Nat.le_of_ble_eq_true rfl⟩ rfl hl.1 rfl (Nat.le_of_ble_eq_true rfl) dX9_step_1 ⟨Nat.zero_le _, Nat.zero_le _⟩) (fun H locs hI => ?_)
  clear hr_1
  refine lv_istore_n (lv' := [(1, .int r_1), (0, .ref (X.2.1 + 8))]) Γ.1.1 Γ.1.2.1 dX9_step_4 rfl hl (by decide) rfl (fun ls hl => ?_)
  refine lv_iload_n Γ.1.1 Γ.1.2.1 dX9_step_5 rfl (lv_at hl 0 rfl) ?_
  refine lv_iconst (v := (-1 : Int32)) Γ.1.1 Γ.1.2.1 dX9_step_6 (by decide) ?_
  refine lv_icmp_eq (tgt := 12) Γ.1.1 Γ.1.2.1 dX9_step_7 (by decide) (fun c_3 => ?_) (fun c_3 => ?_)
  · replace h := ite_pos c_3 h; clear c_3
    refine lv_aload_n Γ.1.1 Γ.1.2.1 dX9_step_12 rfl (lv_at hl 1 rfl) ?_
    obtain ⟨σ_5, r_4, hr_4, h⟩ := ob2_some h
    refine g_ci Γ hI (g_runS (As := [.ref (X.2.1 + 8)]) Γ hI (S_X9_removeTip l X σ_2 σ_5 r_4 hr_4) mf_X9_removeTip gw_189 rfl rfl ⟨Nat.le_of_ble_eq_true rfl, Nat.le_of_ble_eq_true rfl⟩ rfl hl.1 rfl (Nat.le_of_ble_eq_true rfl) dX9_step_13 ⟨Nat.zero_le _, Nat.zero_le _⟩) (fun H locs hI => ?_)
    clear hr_4
    refine lv_istore_n (lv' := [(1, .int r_4), (0, .ref (X.2.1 + 8))]) Γ.1.1 Γ.1.2.1 dX9_step_16 rfl hl (by decide) rfl (fun ls hl => ?_)
    refine lv_iload_n Γ.1.1 Γ.1.2.1 dX9_step_17 rfl (lv_at hl 0 rfl) ?_
    refine lv_iconst (v := (-1 : Int32)) Γ.1.1 Γ.1.2.1 dX9_step_18 (by decide) ?_
    refine lv_icmp_eq (tgt := 27) Γ.1.1 Γ.1.2.1 dX9_step_19 (by decide) (fun c_6 => ?_) (fun c_6 => ?_)
    · replace h := ite_pos c_6 h; clear c_6
      refine lv_aload_n Γ.1.1 Γ.1.2.1 dX9_step_27 rfl (lv_at hl 1 rfl) ?_
      obtain ⟨σ_8, r_7, hr_7, h⟩ := ob2_some h
      refine g_ci Γ hI (g_runS (As := [.ref (X.2.1 + 8)]) Γ hI (S_X9_thinLines l X σ_5 σ_8 r_7 hr_7) mf_X9_thinLines gw_190 rfl rfl ⟨Nat.le_of_ble_eq_true rfl, Nat.le_of_ble_eq_true rfl⟩ rfl hl.1 rfl (Nat.le_of_ble_eq_true rfl) dX9_step_28 ⟨Nat.zero_le _, Nat.zero_le _⟩) (fun H locs hI => ?_)
      clear hr_7
      refine lv_istore_n (lv' := [(1, .int r_7), (0, .ref (X.2.1 + 8))]) Γ.1.1 Γ.1.2.1 dX9_step_31 rfl hl (by decide) rfl (fun ls hl => ?_)
      refine lv_iload_n Γ.1.1 Γ.1.2.1 dX9_step_32 rfl (lv_at hl 0 rfl) ?_
      refine lv_iconst (v := (-1 : Int32)) Γ.1.1 Γ.1.2.1 dX9_step_33 (by decide) ?_
      refine lv_icmp_eq (tgt := 42) Γ.1.1 Γ.1.2.1 dX9_step_34 (by decide) (fun c_9 => ?_) (fun c_9 => ?_)
      · replace h := ite_pos c_9 h; clear c_9
        refine lv_aload_n Γ.1.1 Γ.1.2.1 dX9_step_42 rfl (lv_at hl 1 rfl) ?_
        obtain ⟨σ_11, r_10, hr_10, h⟩ := ob2_some h
        refine g_ci Γ hI (g_runS (As := [.ref (X.2.1 + 8)]) Γ hI (S_X9_passBy l X σ_8 σ_11 r_10 hr_10) mf_X9_passBy gw_191 rfl rfl ⟨Nat.le_of_ble_eq_true rfl, Nat.le_of_ble_eq_true rfl⟩ rfl hl.1 rfl (Nat.le_of_ble_eq_true rfl) dX9_step_43 ⟨Nat.zero_le _, Nat.zero_le _⟩) (fun H locs hI => ?_)
        clear hr_10
        refine lv_istore_n (lv' := [(1, .int r_10), (0, .ref (X.2.1 + 8))]) Γ.1.1 Γ.1.2.1 dX9_step_46 rfl hl (by decide) rfl (fun ls hl => ?_)
        refine lv_iload_n Γ.1.1 Γ.1.2.1 dX9_step_47 rfl (lv_at hl 0 rfl) ?_
        refine lv_iconst (v := (-1 : Int32)) Γ.1.1 Γ.1.2.1 dX9_step_48 (by decide) ?_
        refine lv_icmp_eq (tgt := 59) Γ.1.1 Γ.1.2.1 dX9_step_49 (by decide) (fun c_12 => ?_) (fun c_12 => ?_)
        · replace h := ite_pos c_12 h; clear c_12
          refine lv_iconst (v := (-1 : Int32)) Γ.1.1 Γ.1.2.1 dX9_step_59 (by decide) ?_
          exact g_iret Γ hI dX9_step_60 (Prod.mk.inj (Option.some.inj h)).1 (Prod.mk.inj (Option.some.inj h)).2
        · replace h := ite_neg c_12 h; clear c_12
          refine lv_bipush (v := (48 : Int32)) Γ.1.1 Γ.1.2.1 dX9_step_52 (by decide) ?_
          refine lv_iload_n Γ.1.1 Γ.1.2.1 dX9_step_54 rfl (lv_at hl 0 rfl) ?_
          refine lv_iadd Γ.1.1 Γ.1.2.1 dX9_step_55 ?_
          refine lv_goto (tgt := 60) Γ.1.1 Γ.1.2.1 dX9_step_56 (by decide) ?_
          exact g_iret Γ hI dX9_step_60 (Prod.mk.inj (Option.some.inj h)).1 (Prod.mk.inj (Option.some.inj h)).2
      · replace h := ite_neg c_9 h; clear c_9
        refine lv_bipush (v := (32 : Int32)) Γ.1.1 Γ.1.2.1 dX9_step_37 (by decide) ?_
        refine lv_iload_n Γ.1.1 Γ.1.2.1 dX9_step_39 rfl (lv_at hl 0 rfl) ?_
        refine lv_iadd Γ.1.1 Γ.1.2.1 dX9_step_40 ?_
        exact g_iret Γ hI dX9_step_41 (Prod.mk.inj (Option.some.inj h)).1 (Prod.mk.inj (Option.some.inj h)).2
    · replace h := ite_neg c_6 h; clear c_6
      refine lv_bipush (v := (16 : Int32)) Γ.1.1 Γ.1.2.1 dX9_step_22 (by decide) ?_
      refine lv_iload_n Γ.1.1 Γ.1.2.1 dX9_step_24 rfl (lv_at hl 0 rfl) ?_
      refine lv_iadd Γ.1.1 Γ.1.2.1 dX9_step_25 ?_
      exact g_iret Γ hI dX9_step_26 (Prod.mk.inj (Option.some.inj h)).1 (Prod.mk.inj (Option.some.inj h)).2
  · replace h := ite_neg c_3 h; clear c_3
    refine lv_iload_n Γ.1.1 Γ.1.2.1 dX9_step_10 rfl (lv_at hl 0 rfl) ?_
    exact g_iret Γ hI dX9_step_11 (Prod.mk.inj (Option.some.inj h)).1 (Prod.mk.inj (Option.some.inj h)).2
set_option maxRecDepth 20000 in
set_option maxHeartbeats 4000000 in
theorem S_X5_keepNoted (l : Launch) (X : GX) (σ : GM) (σr : GM) (h : f_X5_keepNoted σ = some σr) : gMet l yX5_keepNoted cX5_keepNoted 1 none ({ frames := 1, cells := 0, slots := 0, locals := 40 } : Room) X σ [.ref (X.2.1 + 11)] (gQv X σr) := by
  unfold f_X5_keepNoted at h
  refine gMet_of (lv := [(0, .ref (X.2.1 + 11))]) (by decide) rfl (Nat.le_of_ble_eq_true rfl) rfl (fun p e s m below meth c H ls Γ hI hl => ?_)
  refine lv_aload_n Γ.1.1 Γ.1.2.1 dX5_keepNoted_0 rfl (lv_at hl 0 rfl) ?_
  refine lv_aload_n Γ.1.1 Γ.1.2.1 dX5_keepNoted_1 rfl (lv_at hl 0 rfl) ?_
  refine get_X5_latest Γ hI gw_173 dX5_keepNoted_2 ?_
  refine lv_iconst (v := (1 : Int32)) Γ.1.1 Γ.1.2.1 dX5_keepNoted_5 (by decide) ?_
  refine lv_iadd Γ.1.1 Γ.1.2.1 dX5_keepNoted_6 ?_
  refine lv_bipush (v := (9 : Int32)) Γ.1.1 Γ.1.2.1 dX5_keepNoted_7 (by decide) ?_
  obtain ⟨hz_1, h⟩ := nz_some h
  refine lv_irem Γ.1.1 Γ.1.2.1 dX5_keepNoted_9 hz_1 ?_
  refine put_X5_latest Γ hI gw_173 dX5_keepNoted_10 (fun H locs hI => ?_)
  obtain ⟨σ_2, e_m_2, h⟩ := nm_some h
  rw [← e_m_2] at hI; clear e_m_2
  refine lv_aload_n Γ.1.1 Γ.1.2.1 dX5_keepNoted_13 rfl (lv_at hl 0 rfl) ?_
  refine lv_bipush (v := (8 : Int32)) Γ.1.1 Γ.1.2.1 dX5_keepNoted_14 (by decide) ?_
  refine lv_aload_n Γ.1.1 Γ.1.2.1 dX5_keepNoted_16 rfl (lv_at hl 0 rfl) ?_
  refine get_X5_count Γ hI gw_99 dX5_keepNoted_17 ?_
  refine lv_iconst (v := (1 : Int32)) Γ.1.1 Γ.1.2.1 dX5_keepNoted_20 (by decide) ?_
  refine lv_iadd Γ.1.1 Γ.1.2.1 dX5_keepNoted_21 ?_
  refine va_mmin Γ.1.1 Γ.1.2.1 (Γ.1.2.2.1.trans hl.1.symm) Γ.1.2.2.2.1 (Γ.1.2.2.2.2 _ gw_192) (Γ.1.2.2.2.2 _ gw_43) (Γ.1.2.2.2.2 _ gw_35) (Γ.1.2.2.2.2 _ gw_44) (Nat.le_of_ble_eq_true rfl) (Nat.le_of_ble_eq_true rfl) (Nat.zero_le _) (Nat.zero_le _) dX5_keepNoted_22 ?_
  refine put_X5_count Γ hI gw_99 dX5_keepNoted_25 (fun H locs hI => ?_)
  obtain ⟨σ_3, e_m_3, h⟩ := nm_some h
  rw [← e_m_3] at hI; clear e_m_3
  exact g_vret Γ hI dX5_keepNoted_28 (Option.some.inj h)
set_option maxRecDepth 20000 in
set_option maxHeartbeats 4000000 in
theorem S_X11_keepAct (l : Launch) (X : GX) (σ : GM) (σr : GM) (h : f_X11_keepAct σ = some σr) : gMet l yX11_keepAct cX11_keepAct 1 none ({ frames := 2, cells := 0, slots := 0, locals := 60 } : Room) X σ [.ref (X.2.1 + 0)] (gQv X σr) := by
  unfold f_X11_keepAct at h
  refine gMet_of (lv := [(0, .ref (X.2.1 + 0))]) (by decide) rfl (Nat.le_of_ble_eq_true rfl) rfl (fun p e s m below meth c H ls Γ hI hl => ?_)
  refine lv_aload_n Γ.1.1 Γ.1.2.1 dX11_keepAct_0 rfl (lv_at hl 0 rfl) ?_
  refine get_X11_past Γ hI gw_109 dX11_keepAct_1 ?_
  obtain ⟨σ_2, hr_1, h⟩ := ob_some h
  refine g_cv Γ hI (g_runV (As := []) Γ hI (S_X5_keepNoted l X σ σ_2 hr_1) mf_X5_keepNoted (recv_X5 Γ hI) gw_193 rfl rfl ⟨Nat.le_of_ble_eq_true rfl, Nat.le_of_ble_eq_true rfl⟩ rfl hl.1 rfl (Nat.le_of_ble_eq_true rfl) dX11_keepAct_4 ⟨Nat.zero_le _, Nat.zero_le _⟩) (fun H locs hI => ?_)
  clear hr_1
  refine lv_aload_n Γ.1.1 Γ.1.2.1 dX11_keepAct_7 rfl (lv_at hl 0 rfl) ?_
  obtain ⟨σ_4, hr_3, h⟩ := ob_some h
  refine g_cv Γ hI (g_runV (As := []) Γ hI (S_X11_markChanged l X σ_2 σ_4 hr_3) mf_X11_markChanged (recv_X11 Γ hI) gw_111 rfl rfl ⟨Nat.le_of_ble_eq_true rfl, Nat.le_of_ble_eq_true rfl⟩ rfl hl.1 rfl (Nat.le_of_ble_eq_true rfl) dX11_keepAct_8 ⟨Nat.zero_le _, Nat.zero_le _⟩) (fun H locs hI => ?_)
  clear hr_3
  exact g_vret Γ hI dX11_keepAct_11 (Option.some.inj h)
set_option maxRecDepth 20000 in
set_option maxHeartbeats 4000000 in
theorem S_X11_shrink (l : Launch) (X : GX) (σ : GM) (σr : GM) (x : Int32) (h : f_X11_shrink σ = some (σr, x)) : gMet l yX11_shrink cX11_shrink 2 (some .int) ({ frames := 5, cells := 0, slots := 0, locals := 115 } : Room) X σ [.ref (X.2.1 + 0)] (gQi X σr x) := by
  unfold f_X11_shrink at h
  refine gMet_of (lv := [(0, .ref (X.2.1 + 0))]) (by decide) rfl (Nat.le_of_ble_eq_true rfl) rfl (fun p e s m below meth c H ls Γ hI hl => ?_)
  refine lv_aload_n Γ.1.1 Γ.1.2.1 dX11_shrink_0 rfl (lv_at hl 0 rfl) ?_
  refine get_X11_past Γ hI gw_109 dX11_shrink_1 ?_
  refine lv_aload_n Γ.1.1 Γ.1.2.1 dX11_shrink_4 rfl (lv_at hl 0 rfl) ?_
  refine get_X11_net Γ hI gw_106 dX11_shrink_5 ?_
  obtain ⟨σ_2, hr_1, h⟩ := ob_some h
  refine g_cv Γ hI (g_runV (As := [.ref (X.2.1 + 8)]) Γ hI (S_X5_note l X σ σ_2 hr_1) mf_X5_note (recv_X5 Γ hI) gw_194 rfl rfl ⟨Nat.le_of_ble_eq_true rfl, Nat.le_of_ble_eq_true rfl⟩ rfl hl.1 rfl (Nat.le_of_ble_eq_true rfl) dX11_shrink_8 ⟨Nat.zero_le _, Nat.zero_le _⟩) (fun H locs hI => ?_)
  clear hr_1
  refine lv_aload_n Γ.1.1 Γ.1.2.1 dX11_shrink_11 rfl (lv_at hl 0 rfl) ?_
  refine get_X11_net Γ hI gw_106 dX11_shrink_12 ?_
  obtain ⟨σ_4, r_3, hr_3, h⟩ := ob2_some h
  refine g_ci Γ hI (g_runS (As := [.ref (X.2.1 + 8)]) Γ hI (S_X9_step l X σ_2 σ_4 r_3 hr_3) mf_X9_step gw_195 rfl rfl ⟨Nat.le_of_ble_eq_true rfl, Nat.le_of_ble_eq_true rfl⟩ rfl hl.1 rfl (Nat.le_of_ble_eq_true rfl) dX11_shrink_15 ⟨Nat.zero_le _, Nat.zero_le _⟩) (fun H locs hI => ?_)
  clear hr_3
  refine lv_istore_n (lv' := [(1, .int r_3), (0, .ref (X.2.1 + 0))]) Γ.1.1 Γ.1.2.1 dX11_shrink_18 rfl hl (by decide) rfl (fun ls hl => ?_)
  refine lv_iload_n Γ.1.1 Γ.1.2.1 dX11_shrink_19 rfl (lv_at hl 0 rfl) ?_
  refine lv_iconst (v := (-1 : Int32)) Γ.1.1 Γ.1.2.1 dX11_shrink_20 (by decide) ?_
  refine lv_icmp_eq (tgt := 28) Γ.1.1 Γ.1.2.1 dX11_shrink_21 (by decide) (fun c_5 => ?_) (fun c_5 => ?_)
  · replace h := ite_pos c_5 h; clear c_5
    refine lv_iload_n Γ.1.1 Γ.1.2.1 dX11_shrink_28 rfl (lv_at hl 0 rfl) ?_
    exact g_iret Γ hI dX11_shrink_29 (Prod.mk.inj (Option.some.inj h)).1 (Prod.mk.inj (Option.some.inj h)).2
  · replace h := ite_neg c_5 h; clear c_5
    refine lv_aload_n Γ.1.1 Γ.1.2.1 dX11_shrink_24 rfl (lv_at hl 1 rfl) ?_
    obtain ⟨σ_7, hr_6, h⟩ := ob_some h
    refine g_cv Γ hI (g_runV (As := []) Γ hI (S_X11_keepAct l X σ_4 σ_7 hr_6) mf_X11_keepAct (recv_X11 Γ hI) gw_196 rfl rfl ⟨Nat.le_of_ble_eq_true rfl, Nat.le_of_ble_eq_true rfl⟩ rfl hl.1 rfl (Nat.le_of_ble_eq_true rfl) dX11_shrink_25 ⟨Nat.zero_le _, Nat.zero_le _⟩) (fun H locs hI => ?_)
    clear hr_6
    refine lv_iload_n Γ.1.1 Γ.1.2.1 dX11_shrink_28 rfl (lv_at hl 0 rfl) ?_
    exact g_iret Γ hI dX11_shrink_29 (Prod.mk.inj (Option.some.inj h)).1 (Prod.mk.inj (Option.some.inj h)).2
set_option maxRecDepth 20000 in
set_option maxHeartbeats 4000000 in
theorem s_X11_shrinkAll_L42 {p : Program} {l : Launch} {e : Env} {s : State} {m : MethodId} {args : Array Value} {below : List Frame} {meth : Method} {c : Code} {X : GX} (σr : GM) (x : Int32) (Γ : gC X p m meth c cX11_shrinkAll 3 s args RX11 (some .int)) :
    ∀ (σ : GM) (v1 : Int32) (H : Heap) (locs : List Loc) (ls : Array Slot), gI X σ s H locs → lv_has ls 3 [(0, .ref (X.2.1 + 0)), (1, .int v1)] → f_X11_shrinkAll_L42 σ v1 = some (σr, x) →
    W p l e ({ frames := 5, cells := 0, slots := 0, locals := 115 } : Room) s m args below meth c H locs 0 0 (MQ below (gQi X σr x) args s 0 0 (gA X)) (F0 m 42 ls []) := by
  intro σ v1 H locs ls hI hl h
  unfold f_X11_shrinkAll_L42 at h
  refine lv_iload_n Γ.1.1 Γ.1.2.1 dX11_shrinkAll_42 rfl (lv_at hl 1 rfl) ?_
  refine lv_if_le (tgt := 50) Γ.1.1 Γ.1.2.1 dX11_shrinkAll_43 (by decide) (fun c_4 => ?_) (fun c_4 => ?_)
  · replace h := ite_pos c_4 h; clear c_4
    refine lv_iload_n Γ.1.1 Γ.1.2.1 dX11_shrinkAll_50 rfl (lv_at hl 1 rfl) ?_
    exact g_iret Γ hI dX11_shrinkAll_51 (Prod.mk.inj (Option.some.inj h)).1 (Prod.mk.inj (Option.some.inj h)).2
  · replace h := ite_neg c_4 h; clear c_4
    refine lv_aload_n Γ.1.1 Γ.1.2.1 dX11_shrinkAll_46 rfl (lv_at hl 0 rfl) ?_
    obtain ⟨σ_6, hr_5, h⟩ := ob_some h
    refine g_cv Γ hI (g_runV (As := []) Γ hI (S_X11_keepAct l X σ σ_6 hr_5) mf_X11_keepAct (recv_X11 Γ hI) gw_196 rfl rfl ⟨Nat.le_of_ble_eq_true rfl, Nat.le_of_ble_eq_true rfl⟩ rfl hl.1 rfl (Nat.le_of_ble_eq_true rfl) dX11_shrinkAll_47 ⟨Nat.zero_le _, Nat.zero_le _⟩) (fun H locs hI => ?_)
    clear hr_5
    refine lv_iload_n Γ.1.1 Γ.1.2.1 dX11_shrinkAll_50 rfl (lv_at hl 1 rfl) ?_
    exact g_iret Γ hI dX11_shrinkAll_51 (Prod.mk.inj (Option.some.inj h)).1 (Prod.mk.inj (Option.some.inj h)).2
set_option maxRecDepth 20000 in
set_option maxHeartbeats 4000000 in
theorem s_X11_shrinkAll_L15 {p : Program} {l : Launch} {e : Env} {s : State} {m : MethodId} {args : Array Value} {below : List Frame} {meth : Method} {c : Code} {X : GX} (σr : GM) (x : Int32) (Γ : gC X p m meth c cX11_shrinkAll 3 s args RX11 (some .int)) :
    ∀ (k : Nat) (σ : GM) (v1 : Int32) (v2 : Int32) (H : Heap) (locs : List Loc) (ls : Array Slot), gI X σ s H locs → lv_has ls 3 [(0, .ref (X.2.1 + 0)), (1, .int v1), (2, .int v2)] → f_X11_shrinkAll_L15 k σ v1 v2 = some (σr, x) →
    W p l e ({ frames := 5, cells := 0, slots := 0, locals := 115 } : Room) s m args below meth c H locs 0 0 (MQ below (gQi X σr x) args s 0 0 (gA X)) (F0 m 15 ls []) := by
  intro k
  induction k with
  | zero =>
    intro σ v1 v2 H locs ls hI hl h
    exact absurd h (by simp [f_X11_shrinkAll_L15])
  | succ k ih =>
    intro σ v1 v2 H locs ls hI hl h
    unfold f_X11_shrinkAll_L15 at h
    refine lv_iload_n Γ.1.1 Γ.1.2.1 dX11_shrinkAll_15 rfl (lv_at hl 2 rfl) ?_
    refine lv_sipush (v := (1000 : Int32)) Γ.1.1 Γ.1.2.1 dX11_shrinkAll_16 (by decide) ?_
    refine lv_icmp_ge (tgt := 42) Γ.1.1 Γ.1.2.1 dX11_shrinkAll_19 (by decide) (fun c_3 => ?_) (fun c_3 => ?_)
    · replace h := ite_pos c_3 h; clear c_3
      exact s_X11_shrinkAll_L42 σr x Γ σ v1 _ _ _ hI (lv_sub hl [0, 1] rfl) h
    · replace h := ite_neg c_3 h; clear c_3
      refine lv_aload_n Γ.1.1 Γ.1.2.1 dX11_shrinkAll_22 rfl (lv_at hl 0 rfl) ?_
      refine get_X11_net Γ hI gw_106 dX11_shrinkAll_23 ?_
      obtain ⟨σ_8, r_7, hr_7, h⟩ := ob2_some h
      refine g_ci Γ hI (g_runS (As := [.ref (X.2.1 + 8)]) Γ hI (S_X9_step l X σ σ_8 r_7 hr_7) mf_X9_step gw_195 rfl rfl ⟨Nat.le_of_ble_eq_true rfl, Nat.le_of_ble_eq_true rfl⟩ rfl hl.1 rfl (Nat.le_of_ble_eq_true rfl) dX11_shrinkAll_26 ⟨Nat.zero_le _, Nat.zero_le _⟩) (fun H locs hI => ?_)
      clear hr_7
      refine lv_iconst (v := (-1 : Int32)) Γ.1.1 Γ.1.2.1 dX11_shrinkAll_29 (by decide) ?_
      refine lv_icmp_eq (tgt := 42) Γ.1.1 Γ.1.2.1 dX11_shrinkAll_30 (by decide) (fun c_9 => ?_) (fun c_9 => ?_)
      · replace h := ite_pos c_9 h; clear c_9
        exact s_X11_shrinkAll_L42 σr x Γ σ_8 v1 _ _ _ hI (lv_sub hl [0, 1] rfl) h
      · replace h := ite_neg c_9 h; clear c_9
        obtain ⟨v1_10, e_v1_10, h⟩ := nm_some h
        refine lv_iinc (v := v1_10) (lv' := [(1, .int v1_10), (0, .ref (X.2.1 + 0)), (2, .int v2)]) Γ.1.1 Γ.1.2.1 dX11_shrinkAll_33 hl (k := 1) rfl (by rw [e_v1_10]; rfl) (by decide) rfl (fun ls hl => ?_)
        clear e_v1_10
        obtain ⟨v2_11, e_v2_11, h⟩ := nm_some h
        refine lv_iinc (v := v2_11) (lv' := [(2, .int v2_11), (1, .int v1_10), (0, .ref (X.2.1 + 0))]) Γ.1.1 Γ.1.2.1 dX11_shrinkAll_36 hl (k := 2) rfl (by rw [e_v2_11]; rfl) (by decide) rfl (fun ls hl => ?_)
        clear e_v2_11
        refine lv_goto (tgt := 15) Γ.1.1 Γ.1.2.1 dX11_shrinkAll_39 (by decide) ?_
        exact ih σ_8 v1_10 v2_11 _ _ _ hI (lv_sub hl [2, 1, 0] rfl) h
set_option maxRecDepth 20000 in
set_option maxHeartbeats 4000000 in
theorem S_X11_shrinkAll (l : Launch) (X : GX) (σ : GM) (σr : GM) (x : Int32) (h : f_X11_shrinkAll σ = some (σr, x)) : gMet l yX11_shrinkAll cX11_shrinkAll 3 (some .int) ({ frames := 5, cells := 0, slots := 0, locals := 115 } : Room) X σ [.ref (X.2.1 + 0)] (gQi X σr x) := by
  unfold f_X11_shrinkAll at h
  refine gMet_of (lv := [(0, .ref (X.2.1 + 0))]) (by decide) rfl (Nat.le_of_ble_eq_true rfl) rfl (fun p e s m below meth c H ls Γ hI hl => ?_)
  refine lv_aload_n Γ.1.1 Γ.1.2.1 dX11_shrinkAll_0 rfl (lv_at hl 0 rfl) ?_
  refine get_X11_past Γ hI gw_109 dX11_shrinkAll_1 ?_
  refine lv_aload_n Γ.1.1 Γ.1.2.1 dX11_shrinkAll_4 rfl (lv_at hl 0 rfl) ?_
  refine get_X11_net Γ hI gw_106 dX11_shrinkAll_5 ?_
  obtain ⟨σ_2, hr_1, h⟩ := ob_some h
  refine g_cv Γ hI (g_runV (As := [.ref (X.2.1 + 8)]) Γ hI (S_X5_note l X σ σ_2 hr_1) mf_X5_note (recv_X5 Γ hI) gw_194 rfl rfl ⟨Nat.le_of_ble_eq_true rfl, Nat.le_of_ble_eq_true rfl⟩ rfl hl.1 rfl (Nat.le_of_ble_eq_true rfl) dX11_shrinkAll_8 ⟨Nat.zero_le _, Nat.zero_le _⟩) (fun H locs hI => ?_)
  clear hr_1
  refine lv_iconst (v := (0 : Int32)) Γ.1.1 Γ.1.2.1 dX11_shrinkAll_11 (by decide) ?_
  refine lv_istore_n (lv' := [(1, .int (0 : Int32)), (0, .ref (X.2.1 + 0))]) Γ.1.1 Γ.1.2.1 dX11_shrinkAll_12 rfl hl (by decide) rfl (fun ls hl => ?_)
  refine lv_iconst (v := (0 : Int32)) Γ.1.1 Γ.1.2.1 dX11_shrinkAll_13 (by decide) ?_
  refine lv_istore_n (lv' := [(2, .int (0 : Int32)), (1, .int (0 : Int32)), (0, .ref (X.2.1 + 0))]) Γ.1.1 Γ.1.2.1 dX11_shrinkAll_14 rfl hl (by decide) rfl (fun ls hl => ?_)
  exact s_X11_shrinkAll_L15 σr x Γ _ σ_2 (0 : Int32) (0 : Int32) _ _ _ hI (lv_sub hl [2, 1, 0] rfl) h
set_option maxRecDepth 20000 in
set_option maxHeartbeats 4000000 in
theorem S_X11_drop (l : Launch) (X : GX) (σ : GM) (v1 : Int32) (σr : GM) (x : Int32) (h : f_X11_drop σ v1 = some (σr, x)) : gMet l yX11_drop cX11_drop 2 (some .int) ({ frames := 3, cells := 0, slots := 0, locals := 80 } : Room) X σ [.ref (X.2.1 + 0), .int v1] (gQi X σr x) := by
  unfold f_X11_drop at h
  refine gMet_of (lv := [(0, .ref (X.2.1 + 0)), (1, .int v1)]) (by decide) rfl (Nat.le_of_ble_eq_true rfl) rfl (fun p e s m below meth c H ls Γ hI hl => ?_)
  refine lv_aload_n Γ.1.1 Γ.1.2.1 dX11_drop_0 rfl (lv_at hl 0 rfl) ?_
  refine get_X11_past Γ hI gw_109 dX11_drop_1 ?_
  refine lv_aload_n Γ.1.1 Γ.1.2.1 dX11_drop_4 rfl (lv_at hl 0 rfl) ?_
  refine get_X11_net Γ hI gw_106 dX11_drop_5 ?_
  obtain ⟨σ_2, hr_1, h⟩ := ob_some h
  refine g_cv Γ hI (g_runV (As := [.ref (X.2.1 + 8)]) Γ hI (S_X5_note l X σ σ_2 hr_1) mf_X5_note (recv_X5 Γ hI) gw_194 rfl rfl ⟨Nat.le_of_ble_eq_true rfl, Nat.le_of_ble_eq_true rfl⟩ rfl hl.1 rfl (Nat.le_of_ble_eq_true rfl) dX11_drop_8 ⟨Nat.zero_le _, Nat.zero_le _⟩) (fun H locs hI => ?_)
  clear hr_1
  refine lv_aload_n Γ.1.1 Γ.1.2.1 dX11_drop_11 rfl (lv_at hl 0 rfl) ?_
  refine get_X11_net Γ hI gw_106 dX11_drop_12 ?_
  refine lv_iload_n Γ.1.1 Γ.1.2.1 dX11_drop_15 rfl (lv_at hl 1 rfl) ?_
  obtain ⟨σ_4, r_3, hr_3, h⟩ := ob2_some h
  refine g_ci Γ hI (g_runV (As := [.int v1]) Γ hI (S_X3_remove l X σ_2 8 sh_8 v1 σ_4 r_3 hr_3) mf_X3_remove (recv_X3 sh_8 Γ hI) gw_197 rfl rfl ⟨Nat.le_of_ble_eq_true rfl, Nat.le_of_ble_eq_true rfl⟩ rfl hl.1 rfl (Nat.le_of_ble_eq_true rfl) dX11_drop_16 ⟨Nat.zero_le _, Nat.zero_le _⟩) (fun H locs hI => ?_)
  clear hr_3
  refine lv_if_ne (tgt := 24) Γ.1.1 Γ.1.2.1 dX11_drop_19 (by decide) (fun c_5 => ?_) (fun c_5 => ?_)
  · replace h := ite_neg c_5 h; clear c_5
    refine lv_aload_n Γ.1.1 Γ.1.2.1 dX11_drop_24 rfl (lv_at hl 0 rfl) ?_
    obtain ⟨σ_7, hr_6, h⟩ := ob_some h
    refine g_cv Γ hI (g_runV (As := []) Γ hI (S_X11_keepAct l X σ_4 σ_7 hr_6) mf_X11_keepAct (recv_X11 Γ hI) gw_196 rfl rfl ⟨Nat.le_of_ble_eq_true rfl, Nat.le_of_ble_eq_true rfl⟩ rfl hl.1 rfl (Nat.le_of_ble_eq_true rfl) dX11_drop_25 ⟨Nat.zero_le _, Nat.zero_le _⟩) (fun H locs hI => ?_)
    clear hr_6
    refine lv_aload_n Γ.1.1 Γ.1.2.1 dX11_drop_28 rfl (lv_at hl 0 rfl) ?_
    refine get_X11_net Γ hI gw_106 dX11_drop_29 ?_
    refine get_X3_there sh_8 Γ hI gw_115 dX11_drop_32 ?_
    obtain ⟨r_8, hr_8, h⟩ := ob_some h
    refine g_ci Γ hI (g_runS (As := [.int (σ_7.1 8 3)]) Γ hI (S_J6_bitCount_0f7a4 l X σ_7 (σ_7.1 8 3) r_8 hr_8) mf_J6_bitCount_0f7a4 gw_140 rfl rfl ⟨Nat.le_of_ble_eq_true rfl, Nat.le_of_ble_eq_true rfl⟩ rfl hl.1 rfl (Nat.le_of_ble_eq_true rfl) dX11_drop_35 ⟨Nat.zero_le _, Nat.zero_le _⟩) (fun H locs hI => ?_)
    clear hr_8
    exact g_iret Γ hI dX11_drop_38 (Prod.mk.inj (Option.some.inj h)).1 (Prod.mk.inj (Option.some.inj h)).2
  · replace h := ite_pos c_5 h; clear c_5
    refine lv_iconst (v := (-1 : Int32)) Γ.1.1 Γ.1.2.1 dX11_drop_22 (by decide) ?_
    exact g_iret Γ hI dX11_drop_23 (Prod.mk.inj (Option.some.inj h)).1 (Prod.mk.inj (Option.some.inj h)).2
set_option maxRecDepth 20000 in
set_option maxHeartbeats 4000000 in
theorem S_X11_join (l : Launch) (X : GX) (σ : GM) (v1 : Int32) (v2 : Int32) (σr : GM) (x : Int32) (h : f_X11_join σ v1 v2 = some (σr, x)) : gMet l yX11_join cX11_join 3 (some .int) ({ frames := 3, cells := 0, slots := 0, locals := 80 } : Room) X σ [.ref (X.2.1 + 0), .int v1, .int v2] (gQi X σr x) := by
  unfold f_X11_join at h
  refine gMet_of (lv := [(0, .ref (X.2.1 + 0)), (1, .int v1), (2, .int v2)]) (by decide) rfl (Nat.le_of_ble_eq_true rfl) rfl (fun p e s m below meth c H ls Γ hI hl => ?_)
  refine lv_aload_n Γ.1.1 Γ.1.2.1 dX11_join_0 rfl (lv_at hl 0 rfl) ?_
  refine get_X11_net Γ hI gw_106 dX11_join_1 ?_
  refine lv_iload_n Γ.1.1 Γ.1.2.1 dX11_join_4 rfl (lv_at hl 1 rfl) ?_
  obtain ⟨r_1, hr_1, h⟩ := ob_some h
  refine g_ci Γ hI (g_runV (As := [.int v1]) Γ hI (S_X3_isThere l X σ 8 sh_8 v1 r_1 hr_1) mf_X3_isThere (recv_X3 sh_8 Γ hI) gw_121 rfl rfl ⟨Nat.le_of_ble_eq_true rfl, Nat.le_of_ble_eq_true rfl⟩ rfl hl.1 rfl (Nat.le_of_ble_eq_true rfl) dX11_join_5 ⟨Nat.zero_le _, Nat.zero_le _⟩) (fun H locs hI => ?_)
  clear hr_1
  refine lv_if_eq (tgt := 22) Γ.1.1 Γ.1.2.1 dX11_join_8 (by decide) (fun c_3 => ?_) (fun c_3 => ?_)
  · replace h := ite_pos c_3 h; clear c_3
    refine lv_iconst (v := (-1 : Int32)) Γ.1.1 Γ.1.2.1 dX11_join_22 (by decide) ?_
    exact g_iret Γ hI dX11_join_23 (Prod.mk.inj (Option.some.inj h)).1 (Prod.mk.inj (Option.some.inj h)).2
  · replace h := ite_neg c_3 h; clear c_3
    refine lv_aload_n Γ.1.1 Γ.1.2.1 dX11_join_11 rfl (lv_at hl 0 rfl) ?_
    refine get_X11_net Γ hI gw_106 dX11_join_12 ?_
    refine lv_iload_n Γ.1.1 Γ.1.2.1 dX11_join_15 rfl (lv_at hl 2 rfl) ?_
    obtain ⟨r_4, hr_4, h⟩ := ob_some h
    refine g_ci Γ hI (g_runV (As := [.int v2]) Γ hI (S_X3_isThere l X σ 8 sh_8 v2 r_4 hr_4) mf_X3_isThere (recv_X3 sh_8 Γ hI) gw_121 rfl rfl ⟨Nat.le_of_ble_eq_true rfl, Nat.le_of_ble_eq_true rfl⟩ rfl hl.1 rfl (Nat.le_of_ble_eq_true rfl) dX11_join_16 ⟨Nat.zero_le _, Nat.zero_le _⟩) (fun H locs hI => ?_)
    clear hr_4
    refine lv_if_ne (tgt := 24) Γ.1.1 Γ.1.2.1 dX11_join_19 (by decide) (fun c_6 => ?_) (fun c_6 => ?_)
    · replace h := ite_neg c_6 h; clear c_6
      refine lv_aload_n Γ.1.1 Γ.1.2.1 dX11_join_24 rfl (lv_at hl 0 rfl) ?_
      refine get_X11_past Γ hI gw_109 dX11_join_25 ?_
      refine lv_aload_n Γ.1.1 Γ.1.2.1 dX11_join_28 rfl (lv_at hl 0 rfl) ?_
      refine get_X11_net Γ hI gw_106 dX11_join_29 ?_
      obtain ⟨σ_8, hr_7, h⟩ := ob_some h
      refine g_cv Γ hI (g_runV (As := [.ref (X.2.1 + 8)]) Γ hI (S_X5_note l X σ σ_8 hr_7) mf_X5_note (recv_X5 Γ hI) gw_194 rfl rfl ⟨Nat.le_of_ble_eq_true rfl, Nat.le_of_ble_eq_true rfl⟩ rfl hl.1 rfl (Nat.le_of_ble_eq_true rfl) dX11_join_32 ⟨Nat.zero_le _, Nat.zero_le _⟩) (fun H locs hI => ?_)
      clear hr_7
      refine lv_aload_n Γ.1.1 Γ.1.2.1 dX11_join_35 rfl (lv_at hl 0 rfl) ?_
      refine get_X11_net Γ hI gw_106 dX11_join_36 ?_
      refine lv_iload_n Γ.1.1 Γ.1.2.1 dX11_join_39 rfl (lv_at hl 1 rfl) ?_
      refine lv_iload_n Γ.1.1 Γ.1.2.1 dX11_join_40 rfl (lv_at hl 2 rfl) ?_
      obtain ⟨σ_10, r_9, hr_9, h⟩ := ob2_some h
      refine g_ci Γ hI (g_runV (As := [.int v1, .int v2]) Γ hI (S_X3_addLine l X σ_8 8 sh_8 v1 v2 σ_10 r_9 hr_9) mf_X3_addLine (recv_X3 sh_8 Γ hI) gw_198 rfl rfl ⟨Nat.le_of_ble_eq_true rfl, Nat.le_of_ble_eq_true rfl⟩ rfl hl.1 rfl (Nat.le_of_ble_eq_true rfl) dX11_join_41 ⟨Nat.zero_le _, Nat.zero_le _⟩) (fun H locs hI => ?_)
      clear hr_9
      refine lv_if_ne (tgt := 50) Γ.1.1 Γ.1.2.1 dX11_join_44 (by decide) (fun c_11 => ?_) (fun c_11 => ?_)
      · replace h := ite_neg c_11 h; clear c_11
        refine lv_aload_n Γ.1.1 Γ.1.2.1 dX11_join_50 rfl (lv_at hl 0 rfl) ?_
        obtain ⟨σ_13, hr_12, h⟩ := ob_some h
        refine g_cv Γ hI (g_runV (As := []) Γ hI (S_X11_keepAct l X σ_10 σ_13 hr_12) mf_X11_keepAct (recv_X11 Γ hI) gw_196 rfl rfl ⟨Nat.le_of_ble_eq_true rfl, Nat.le_of_ble_eq_true rfl⟩ rfl hl.1 rfl (Nat.le_of_ble_eq_true rfl) dX11_join_51 ⟨Nat.zero_le _, Nat.zero_le _⟩) (fun H locs hI => ?_)
        clear hr_12
        refine lv_aload_n Γ.1.1 Γ.1.2.1 dX11_join_54 rfl (lv_at hl 0 rfl) ?_
        refine get_X11_net Γ hI gw_106 dX11_join_55 ?_
        refine lv_iload_n Γ.1.1 Γ.1.2.1 dX11_join_58 rfl (lv_at hl 1 rfl) ?_
        refine lv_iload_n Γ.1.1 Γ.1.2.1 dX11_join_59 rfl (lv_at hl 2 rfl) ?_
        obtain ⟨r_14, hr_14, h⟩ := ob_some h
        refine g_ci Γ hI (g_runV (As := [.int v1, .int v2]) Γ hI (S_X3_linesOf l X σ_13 8 sh_8 v1 v2 r_14 hr_14) mf_X3_linesOf (recv_X3 sh_8 Γ hI) gw_122 rfl rfl ⟨Nat.le_of_ble_eq_true rfl, Nat.le_of_ble_eq_true rfl⟩ rfl hl.1 rfl (Nat.le_of_ble_eq_true rfl) dX11_join_60 ⟨Nat.zero_le _, Nat.zero_le _⟩) (fun H locs hI => ?_)
        clear hr_14
        exact g_iret Γ hI dX11_join_63 (Prod.mk.inj (Option.some.inj h)).1 (Prod.mk.inj (Option.some.inj h)).2
      · replace h := ite_pos c_11 h; clear c_11
        refine lv_bipush (v := (-2 : Int32)) Γ.1.1 Γ.1.2.1 dX11_join_47 (by decide) ?_
        exact g_iret Γ hI dX11_join_49 (Prod.mk.inj (Option.some.inj h)).1 (Prod.mk.inj (Option.some.inj h)).2
    · replace h := ite_pos c_6 h; clear c_6
      refine lv_iconst (v := (-1 : Int32)) Γ.1.1 Γ.1.2.1 dX11_join_22 (by decide) ?_
      exact g_iret Γ hI dX11_join_23 (Prod.mk.inj (Option.some.inj h)).1 (Prod.mk.inj (Option.some.inj h)).2
set_option maxRecDepth 20000 in
set_option maxHeartbeats 4000000 in
theorem S_X11_part (l : Launch) (X : GX) (σ : GM) (v1 : Int32) (v2 : Int32) (σr : GM) (x : Int32) (h : f_X11_part σ v1 v2 = some (σr, x)) : gMet l yX11_part cX11_part 3 (some .int) ({ frames := 3, cells := 0, slots := 0, locals := 80 } : Room) X σ [.ref (X.2.1 + 0), .int v1, .int v2] (gQi X σr x) := by
  unfold f_X11_part at h
  refine gMet_of (lv := [(0, .ref (X.2.1 + 0)), (1, .int v1), (2, .int v2)]) (by decide) rfl (Nat.le_of_ble_eq_true rfl) rfl (fun p e s m below meth c H ls Γ hI hl => ?_)
  refine lv_aload_n Γ.1.1 Γ.1.2.1 dX11_part_0 rfl (lv_at hl 0 rfl) ?_
  refine get_X11_past Γ hI gw_109 dX11_part_1 ?_
  refine lv_aload_n Γ.1.1 Γ.1.2.1 dX11_part_4 rfl (lv_at hl 0 rfl) ?_
  refine get_X11_net Γ hI gw_106 dX11_part_5 ?_
  obtain ⟨σ_2, hr_1, h⟩ := ob_some h
  refine g_cv Γ hI (g_runV (As := [.ref (X.2.1 + 8)]) Γ hI (S_X5_note l X σ σ_2 hr_1) mf_X5_note (recv_X5 Γ hI) gw_194 rfl rfl ⟨Nat.le_of_ble_eq_true rfl, Nat.le_of_ble_eq_true rfl⟩ rfl hl.1 rfl (Nat.le_of_ble_eq_true rfl) dX11_part_8 ⟨Nat.zero_le _, Nat.zero_le _⟩) (fun H locs hI => ?_)
  clear hr_1
  refine lv_aload_n Γ.1.1 Γ.1.2.1 dX11_part_11 rfl (lv_at hl 0 rfl) ?_
  refine get_X11_net Γ hI gw_106 dX11_part_12 ?_
  refine lv_iload_n Γ.1.1 Γ.1.2.1 dX11_part_15 rfl (lv_at hl 1 rfl) ?_
  refine lv_iload_n Γ.1.1 Γ.1.2.1 dX11_part_16 rfl (lv_at hl 2 rfl) ?_
  obtain ⟨σ_4, r_3, hr_3, h⟩ := ob2_some h
  refine g_ci Γ hI (g_runV (As := [.int v1, .int v2]) Γ hI (S_X3_takeLine l X σ_2 8 sh_8 v1 v2 σ_4 r_3 hr_3) mf_X3_takeLine (recv_X3 sh_8 Γ hI) gw_199 rfl rfl ⟨Nat.le_of_ble_eq_true rfl, Nat.le_of_ble_eq_true rfl⟩ rfl hl.1 rfl (Nat.le_of_ble_eq_true rfl) dX11_part_17 ⟨Nat.zero_le _, Nat.zero_le _⟩) (fun H locs hI => ?_)
  clear hr_3
  refine lv_if_ne (tgt := 25) Γ.1.1 Γ.1.2.1 dX11_part_20 (by decide) (fun c_5 => ?_) (fun c_5 => ?_)
  · replace h := ite_neg c_5 h; clear c_5
    refine lv_aload_n Γ.1.1 Γ.1.2.1 dX11_part_25 rfl (lv_at hl 0 rfl) ?_
    obtain ⟨σ_7, hr_6, h⟩ := ob_some h
    refine g_cv Γ hI (g_runV (As := []) Γ hI (S_X11_keepAct l X σ_4 σ_7 hr_6) mf_X11_keepAct (recv_X11 Γ hI) gw_196 rfl rfl ⟨Nat.le_of_ble_eq_true rfl, Nat.le_of_ble_eq_true rfl⟩ rfl hl.1 rfl (Nat.le_of_ble_eq_true rfl) dX11_part_26 ⟨Nat.zero_le _, Nat.zero_le _⟩) (fun H locs hI => ?_)
    clear hr_6
    refine lv_aload_n Γ.1.1 Γ.1.2.1 dX11_part_29 rfl (lv_at hl 0 rfl) ?_
    refine get_X11_net Γ hI gw_106 dX11_part_30 ?_
    refine lv_iload_n Γ.1.1 Γ.1.2.1 dX11_part_33 rfl (lv_at hl 1 rfl) ?_
    refine lv_iload_n Γ.1.1 Γ.1.2.1 dX11_part_34 rfl (lv_at hl 2 rfl) ?_
    obtain ⟨r_8, hr_8, h⟩ := ob_some h
    refine g_ci Γ hI (g_runV (As := [.int v1, .int v2]) Γ hI (S_X3_linesOf l X σ_7 8 sh_8 v1 v2 r_8 hr_8) mf_X3_linesOf (recv_X3 sh_8 Γ hI) gw_122 rfl rfl ⟨Nat.le_of_ble_eq_true rfl, Nat.le_of_ble_eq_true rfl⟩ rfl hl.1 rfl (Nat.le_of_ble_eq_true rfl) dX11_part_35 ⟨Nat.zero_le _, Nat.zero_le _⟩) (fun H locs hI => ?_)
    clear hr_8
    exact g_iret Γ hI dX11_part_38 (Prod.mk.inj (Option.some.inj h)).1 (Prod.mk.inj (Option.some.inj h)).2
  · replace h := ite_pos c_5 h; clear c_5
    refine lv_iconst (v := (-1 : Int32)) Γ.1.1 Γ.1.2.1 dX11_part_23 (by decide) ?_
    exact g_iret Γ hI dX11_part_24 (Prod.mk.inj (Option.some.inj h)).1 (Prod.mk.inj (Option.some.inj h)).2
