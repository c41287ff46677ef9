/-! WALKS 4 (by gen.py) -/
set_option maxRecDepth 20000 in
set_option maxHeartbeats 4000000 in
theorem S_X11_weigh (l : Launch) (X : GX) (σ : GM) (v1 : Int32) (v2 : Int32) (σr : GM) (x : Int32) (h : f_X11_weigh σ v1 v2 = some (σr, x)) : gMet l yX11_weigh cX11_weigh 3 (some .int) ({ frames := 3, cells := 0, slots := 0, locals := 80 } : Room) X σ [.ref (X.2.1 + 0), .int v1, .int v2] (gQi X σr x) := by
  unfold f_X11_weigh at h
  refine gMet_of (lv := [(0, .ref (X.2.1 + 0)), (1, .int v1), (2, .int v2)]) (by decide) rfl (Nat.le_of_ble_eq_true rfl) rfl (fun p e s m below meth c H ls Γ hI hl => ?_)
  refine lv_aload_n Γ.1.1 Γ.1.2.1 dX11_weigh_0 rfl (lv_at hl 0 rfl) ?_
  refine get_X11_net Γ hI gw_106 dX11_weigh_1 ?_
  refine lv_iload_n Γ.1.1 Γ.1.2.1 dX11_weigh_4 rfl (lv_at hl 1 rfl) ?_
  obtain ⟨r_1, hr_1, h⟩ := ob_some h
  refine g_ci Γ hI (g_runV (As := [.int v1]) Γ hI (S_X3_isThere l X σ 8 sh_8 v1 r_1 hr_1) mf_X3_isThere (recv_X3 sh_8 Γ hI) gw_121 rfl rfl ⟨Nat.le_of_ble_eq_true rfl, Nat.le_of_ble_eq_true rfl⟩ rfl hl.1 rfl (Nat.le_of_ble_eq_true rfl) dX11_weigh_5 ⟨Nat.zero_le _, Nat.zero_le _⟩) (fun H locs hI => ?_)
  clear hr_1
  refine lv_if_eq (tgt := 22) Γ.1.1 Γ.1.2.1 dX11_weigh_8 (by decide) (fun c_3 => ?_) (fun c_3 => ?_)
  · replace h := ite_pos c_3 h; clear c_3
    refine lv_iconst (v := (-1 : Int32)) Γ.1.1 Γ.1.2.1 dX11_weigh_22 (by decide) ?_
    exact g_iret Γ hI dX11_weigh_23 (Prod.mk.inj (Option.some.inj h)).1 (Prod.mk.inj (Option.some.inj h)).2
  · replace h := ite_neg c_3 h; clear c_3
    refine lv_iload_n Γ.1.1 Γ.1.2.1 dX11_weigh_11 rfl (lv_at hl 2 rfl) ?_
    refine lv_iconst (v := (1 : Int32)) Γ.1.1 Γ.1.2.1 dX11_weigh_12 (by decide) ?_
    refine lv_icmp_lt (tgt := 22) Γ.1.1 Γ.1.2.1 dX11_weigh_13 (by decide) (fun c_4 => ?_) (fun c_4 => ?_)
    · replace h := ite_pos c_4 h; clear c_4
      refine lv_iconst (v := (-1 : Int32)) Γ.1.1 Γ.1.2.1 dX11_weigh_22 (by decide) ?_
      exact g_iret Γ hI dX11_weigh_23 (Prod.mk.inj (Option.some.inj h)).1 (Prod.mk.inj (Option.some.inj h)).2
    · replace h := ite_neg c_4 h; clear c_4
      refine lv_iload_n Γ.1.1 Γ.1.2.1 dX11_weigh_16 rfl (lv_at hl 2 rfl) ?_
      refine lv_bipush (v := (9 : Int32)) Γ.1.1 Γ.1.2.1 dX11_weigh_17 (by decide) ?_
      refine lv_icmp_le (tgt := 24) Γ.1.1 Γ.1.2.1 dX11_weigh_19 (by decide) (fun c_5 => ?_) (fun c_5 => ?_)
      · replace h := ite_pos c_5 h; clear c_5
        refine lv_aload_n Γ.1.1 Γ.1.2.1 dX11_weigh_24 rfl (lv_at hl 0 rfl) ?_
        refine get_X11_past Γ hI gw_109 dX11_weigh_25 ?_
        refine lv_aload_n Γ.1.1 Γ.1.2.1 dX11_weigh_28 rfl (lv_at hl 0 rfl) ?_
        refine get_X11_net Γ hI gw_106 dX11_weigh_29 ?_
        obtain ⟨σ_7, hr_6, h⟩ := ob_some h
        refine g_cv Γ hI (g_runV (As := [.ref (X.2.1 + 8)]) Γ hI (S_X5_note l X σ σ_7 hr_6) mf_X5_note (recv_X5 Γ hI) gw_194 rfl rfl ⟨Nat.le_of_ble_eq_true rfl, Nat.le_of_ble_eq_true rfl⟩ rfl hl.1 rfl (Nat.le_of_ble_eq_true rfl) dX11_weigh_32 ⟨Nat.zero_le _, Nat.zero_le _⟩) (fun H locs hI => ?_)
        clear hr_6
        refine lv_aload_n Γ.1.1 Γ.1.2.1 dX11_weigh_35 rfl (lv_at hl 0 rfl) ?_
        refine get_X11_net Γ hI gw_106 dX11_weigh_36 ?_
        refine lv_iload_n Γ.1.1 Γ.1.2.1 dX11_weigh_39 rfl (lv_at hl 1 rfl) ?_
        refine lv_iload_n Γ.1.1 Γ.1.2.1 dX11_weigh_40 rfl (lv_at hl 2 rfl) ?_
        obtain ⟨σ_9, r_8, hr_8, h⟩ := ob2_some h
        refine g_ci Γ hI (g_runV (As := [.int v1, .int v2]) Γ hI (S_X3_changeWeight l X σ_7 8 sh_8 v1 v2 σ_9 r_8 hr_8) mf_X3_changeWeight (recv_X3 sh_8 Γ hI) gw_200 rfl rfl ⟨Nat.le_of_ble_eq_true rfl, Nat.le_of_ble_eq_true rfl⟩ rfl hl.1 rfl (Nat.le_of_ble_eq_true rfl) dX11_weigh_41 ⟨Nat.zero_le _, Nat.zero_le _⟩) (fun H locs hI => ?_)
        clear hr_8
        refine lv_if_ne (tgt := 49) Γ.1.1 Γ.1.2.1 dX11_weigh_44 (by decide) (fun c_10 => ?_) (fun c_10 => ?_)
        · replace h := ite_neg c_10 h; clear c_10
          refine lv_aload_n Γ.1.1 Γ.1.2.1 dX11_weigh_49 rfl (lv_at hl 0 rfl) ?_
          obtain ⟨σ_12, hr_11, h⟩ := ob_some h
          refine g_cv Γ hI (g_runV (As := []) Γ hI (S_X11_keepAct l X σ_9 σ_12 hr_11) mf_X11_keepAct (recv_X11 Γ hI) gw_196 rfl rfl ⟨Nat.le_of_ble_eq_true rfl, Nat.le_of_ble_eq_true rfl⟩ rfl hl.1 rfl (Nat.le_of_ble_eq_true rfl) dX11_weigh_50 ⟨Nat.zero_le _, Nat.zero_le _⟩) (fun H locs hI => ?_)
          clear hr_11
          refine lv_iconst (v := (0 : Int32)) Γ.1.1 Γ.1.2.1 dX11_weigh_53 (by decide) ?_
          exact g_iret Γ hI dX11_weigh_54 (Prod.mk.inj (Option.some.inj h)).1 (Prod.mk.inj (Option.some.inj h)).2
        · replace h := ite_pos c_10 h; clear c_10
          refine lv_iconst (v := (1 : Int32)) Γ.1.1 Γ.1.2.1 dX11_weigh_47 (by decide) ?_
          exact g_iret Γ hI dX11_weigh_48 (Prod.mk.inj (Option.some.inj h)).1 (Prod.mk.inj (Option.some.inj h)).2
      · replace h := ite_neg c_5 h; clear c_5
        refine lv_iconst (v := (-1 : Int32)) Γ.1.1 Γ.1.2.1 dX11_weigh_22 (by decide) ?_
        exact g_iret Γ hI dX11_weigh_23 (Prod.mk.inj (Option.some.inj h)).1 (Prod.mk.inj (Option.some.inj h)).2
set_option maxRecDepth 20000 in
set_option maxHeartbeats 4000000 in
theorem S_X11_doDeed (l : Launch) (X : GX) (σ : GM) (σr : GM) (x : Int32) (h : f_X11_doDeed σ = some (σr, x)) : gMet l yX11_doDeed cX11_doDeed 4 (some .boolean) ({ frames := 3, cells := 0, slots := 0, locals := 70 } : Room) X σ [.ref (X.2.1 + 0)] (gQi X σr x) := by
  unfold f_X11_doDeed at h
  refine gMet_of (lv := [(0, .ref (X.2.1 + 0))]) (by decide) rfl (Nat.le_of_ble_eq_true rfl) rfl (fun p e s m below meth c H ls Γ hI hl => ?_)
  refine lv_aload_n Γ.1.1 Γ.1.2.1 dX11_doDeed_0 rfl (lv_at hl 0 rfl) ?_
  refine get_X11_draws Γ hI gw_201 dX11_doDeed_1 ?_
  refine lv_bipush (v := (8 : Int32)) Γ.1.1 Γ.1.2.1 dX11_doDeed_4 (by decide) ?_
  obtain ⟨σ_2, r_1, hr_1, h⟩ := ob2_some h
  refine g_ci Γ hI (g_runV (As := [.int (8 : Int32)]) Γ hI (S_X1_below l X σ (8 : Int32) σ_2 r_1 hr_1) mf_X1_below (recv_X1 Γ hI) gw_202 rfl rfl ⟨Nat.le_of_ble_eq_true rfl, Nat.le_of_ble_eq_true rfl⟩ rfl hl.1 rfl (Nat.le_of_ble_eq_true rfl) dX11_doDeed_6 ⟨Nat.zero_le _, Nat.zero_le _⟩) (fun H locs hI => ?_)
  clear hr_1
  refine lv_istore_n (lv' := [(1, .int r_1), (0, .ref (X.2.1 + 0))]) Γ.1.1 Γ.1.2.1 dX11_doDeed_9 rfl hl (by decide) rfl (fun ls hl => ?_)
  refine lv_aload_n Γ.1.1 Γ.1.2.1 dX11_doDeed_10 rfl (lv_at hl 1 rfl) ?_
  refine get_X11_net Γ hI gw_106 dX11_doDeed_11 ?_
  refine get_X3_told sh_8 Γ hI gw_114 dX11_doDeed_14 ?_
  refine lv_if_ne (tgt := 22) Γ.1.1 Γ.1.2.1 dX11_doDeed_17 (by decide) (fun c_3 => ?_) (fun c_3 => ?_)
  · replace h := ite_neg c_3 h; clear c_3
    refine lv_aload_n Γ.1.1 Γ.1.2.1 dX11_doDeed_22 rfl (lv_at hl 1 rfl) ?_
    refine get_X11_draws Γ hI gw_201 dX11_doDeed_23 ?_
    refine lv_aload_n Γ.1.1 Γ.1.2.1 dX11_doDeed_26 rfl (lv_at hl 1 rfl) ?_
    refine get_X11_net Γ hI gw_106 dX11_doDeed_27 ?_
    refine get_X3_told sh_8 Γ hI gw_114 dX11_doDeed_30 ?_
    obtain ⟨σ_5, r_4, hr_4, h⟩ := ob2_some h
    refine g_ci Γ hI (g_runV (As := [.int (σ_2.1 8 2)]) Γ hI (S_X1_below l X σ_2 (σ_2.1 8 2) σ_5 r_4 hr_4) mf_X1_below (recv_X1 Γ hI) gw_202 rfl rfl ⟨Nat.le_of_ble_eq_true rfl, Nat.le_of_ble_eq_true rfl⟩ rfl hl.1 rfl (Nat.le_of_ble_eq_true rfl) dX11_doDeed_33 ⟨Nat.zero_le _, Nat.zero_le _⟩) (fun H locs hI => ?_)
    clear hr_4
    refine lv_istore_n (lv' := [(2, .int r_4), (1, .int r_1), (0, .ref (X.2.1 + 0))]) Γ.1.1 Γ.1.2.1 dX11_doDeed_36 rfl hl (by decide) rfl (fun ls hl => ?_)
    refine lv_iload_n Γ.1.1 Γ.1.2.1 dX11_doDeed_37 rfl (lv_at hl 1 rfl) ?_
    refine lv_if_ne (tgt := 50) Γ.1.1 Γ.1.2.1 dX11_doDeed_38 (by decide) (fun c_6 => ?_) (fun c_6 => ?_)
    · replace h := ite_neg c_6 h; clear c_6
      refine lv_iload_n Γ.1.1 Γ.1.2.1 dX11_doDeed_50 rfl (lv_at hl 1 rfl) ?_
      refine lv_iconst (v := (1 : Int32)) Γ.1.1 Γ.1.2.1 dX11_doDeed_51 (by decide) ?_
      refine lv_icmp_ne (tgt := 75) Γ.1.1 Γ.1.2.1 dX11_doDeed_52 (by decide) (fun c_7 => ?_) (fun c_7 => ?_)
      · replace h := ite_neg c_7 h; clear c_7
        refine lv_aload_n Γ.1.1 Γ.1.2.1 dX11_doDeed_75 rfl (lv_at hl 2 rfl) ?_
        refine get_X11_draws Γ hI gw_201 dX11_doDeed_76 ?_
        refine lv_aload_n Γ.1.1 Γ.1.2.1 dX11_doDeed_79 rfl (lv_at hl 2 rfl) ?_
        refine get_X11_net Γ hI gw_106 dX11_doDeed_80 ?_
        refine get_X3_told sh_8 Γ hI gw_114 dX11_doDeed_83 ?_
        obtain ⟨σ_9, r_8, hr_8, h⟩ := ob2_some h
        refine g_ci Γ hI (g_runV (As := [.int (σ_5.1 8 2)]) Γ hI (S_X1_below l X σ_5 (σ_5.1 8 2) σ_9 r_8 hr_8) mf_X1_below (recv_X1 Γ hI) gw_202 rfl rfl ⟨Nat.le_of_ble_eq_true rfl, Nat.le_of_ble_eq_true rfl⟩ rfl hl.1 rfl (Nat.le_of_ble_eq_true rfl) dX11_doDeed_86 ⟨Nat.zero_le _, Nat.zero_le _⟩) (fun H locs hI => ?_)
        clear hr_8
        refine lv_istore_n (lv' := [(3, .int r_8), (2, .int r_4), (1, .int r_1), (0, .ref (X.2.1 + 0))]) Γ.1.1 Γ.1.2.1 dX11_doDeed_89 rfl hl (by decide) rfl (fun ls hl => ?_)
        refine lv_iload_n Γ.1.1 Γ.1.2.1 dX11_doDeed_90 rfl (lv_at hl 2 rfl) ?_
        refine lv_iconst (v := (2 : Int32)) Γ.1.1 Γ.1.2.1 dX11_doDeed_91 (by decide) ?_
        refine lv_icmp_ne (tgt := 107) Γ.1.1 Γ.1.2.1 dX11_doDeed_92 (by decide) (fun c_10 => ?_) (fun c_10 => ?_)
        · replace h := ite_neg c_10 h; clear c_10
          refine lv_aload_n Γ.1.1 Γ.1.2.1 dX11_doDeed_107 rfl (lv_at hl 3 rfl) ?_
          refine get_X11_net Γ hI gw_106 dX11_doDeed_108 ?_
          refine lv_iload_n Γ.1.1 Γ.1.2.1 dX11_doDeed_111 rfl (lv_at hl 1 rfl) ?_
          refine lv_iload_n Γ.1.1 Γ.1.2.1 dX11_doDeed_112 rfl (lv_at hl 0 rfl) ?_
          obtain ⟨σ_12, r_11, hr_11, h⟩ := ob2_some h
          refine g_ci Γ hI (g_runV (As := [.int r_4, .int r_8]) Γ hI (S_X3_addLine l X σ_9 8 sh_8 r_4 r_8 σ_12 r_11 hr_11) mf_X3_addLine (recv_X3 sh_8 Γ hI) gw_198 rfl rfl ⟨Nat.le_of_ble_eq_true rfl, Nat.le_of_ble_eq_true rfl⟩ rfl hl.1 rfl (Nat.le_of_ble_eq_true rfl) dX11_doDeed_113 ⟨Nat.zero_le _, Nat.zero_le _⟩) (fun H locs hI => ?_)
          clear hr_11
          exact g_zret Γ hI dX11_doDeed_116 (Prod.mk.inj (Option.some.inj h)).1 (Prod.mk.inj (Option.some.inj h)).2
        · replace h := ite_pos c_10 h; clear c_10
          refine lv_aload_n Γ.1.1 Γ.1.2.1 dX11_doDeed_95 rfl (lv_at hl 3 rfl) ?_
          refine get_X11_net Γ hI gw_106 dX11_doDeed_96 ?_
          refine lv_iload_n Γ.1.1 Γ.1.2.1 dX11_doDeed_99 rfl (lv_at hl 1 rfl) ?_
          refine lv_iload_n Γ.1.1 Γ.1.2.1 dX11_doDeed_100 rfl (lv_at hl 0 rfl) ?_
          obtain ⟨σ_14, r_13, hr_13, h⟩ := ob2_some h
          refine g_ci Γ hI (g_runV (As := [.int r_4, .int r_8]) Γ hI (S_X3_takeLine l X σ_9 8 sh_8 r_4 r_8 σ_14 r_13 hr_13) mf_X3_takeLine (recv_X3 sh_8 Γ hI) gw_199 rfl rfl ⟨Nat.le_of_ble_eq_true rfl, Nat.le_of_ble_eq_true rfl⟩ rfl hl.1 rfl (Nat.le_of_ble_eq_true rfl) dX11_doDeed_101 ⟨Nat.zero_le _, Nat.zero_le _⟩) (fun H locs hI => ?_)
          clear hr_13
          refine lv_goto (tgt := 116) Γ.1.1 Γ.1.2.1 dX11_doDeed_104 (by decide) ?_
          exact g_zret Γ hI dX11_doDeed_116 (Prod.mk.inj (Option.some.inj h)).1 (Prod.mk.inj (Option.some.inj h)).2
      · replace h := ite_pos c_7 h; clear c_7
        refine lv_aload_n Γ.1.1 Γ.1.2.1 dX11_doDeed_55 rfl (lv_at hl 2 rfl) ?_
        refine get_X11_net Γ hI gw_106 dX11_doDeed_56 ?_
        refine lv_iload_n Γ.1.1 Γ.1.2.1 dX11_doDeed_59 rfl (lv_at hl 0 rfl) ?_
        refine lv_aload_n Γ.1.1 Γ.1.2.1 dX11_doDeed_60 rfl (lv_at hl 2 rfl) ?_
        refine get_X11_draws Γ hI gw_201 dX11_doDeed_61 ?_
        refine lv_bipush (v := (9 : Int32)) Γ.1.1 Γ.1.2.1 dX11_doDeed_64 (by decide) ?_
        obtain ⟨σ_16, r_15, hr_15, h⟩ := ob2_some h
        refine g_ci Γ hI (g_runV (As := [.int (9 : Int32)]) Γ hI (S_X1_below l X σ_5 (9 : Int32) σ_16 r_15 hr_15) mf_X1_below (recv_X1 Γ hI) gw_202 rfl rfl ⟨Nat.le_of_ble_eq_true rfl, Nat.le_of_ble_eq_true rfl⟩ rfl hl.1 rfl (Nat.le_of_ble_eq_true rfl) dX11_doDeed_66 ⟨Nat.zero_le _, Nat.zero_le _⟩) (fun H locs hI => ?_)
        clear hr_15
        refine lv_iconst (v := (1 : Int32)) Γ.1.1 Γ.1.2.1 dX11_doDeed_69 (by decide) ?_
        refine lv_iadd Γ.1.1 Γ.1.2.1 dX11_doDeed_70 ?_
        obtain ⟨σ_18, r_17, hr_17, h⟩ := ob2_some h
        refine g_ci Γ hI (g_runV (As := [.int r_4, .int (r_15 + (1 : Int32))]) Γ hI (S_X3_changeWeight l X σ_16 8 sh_8 r_4 (r_15 + (1 : Int32)) σ_18 r_17 hr_17) mf_X3_changeWeight (recv_X3 sh_8 Γ hI) gw_200 rfl rfl ⟨Nat.le_of_ble_eq_true rfl, Nat.le_of_ble_eq_true rfl⟩ rfl hl.1 rfl (Nat.le_of_ble_eq_true rfl) dX11_doDeed_71 ⟨Nat.zero_le _, Nat.zero_le _⟩) (fun H locs hI => ?_)
        clear hr_17
        exact g_zret Γ hI dX11_doDeed_74 (Prod.mk.inj (Option.some.inj h)).1 (Prod.mk.inj (Option.some.inj h)).2
    · replace h := ite_pos c_6 h; clear c_6
      refine lv_aload_n Γ.1.1 Γ.1.2.1 dX11_doDeed_41 rfl (lv_at hl 2 rfl) ?_
      refine get_X11_net Γ hI gw_106 dX11_doDeed_42 ?_
      refine lv_iload_n Γ.1.1 Γ.1.2.1 dX11_doDeed_45 rfl (lv_at hl 0 rfl) ?_
      obtain ⟨σ_20, r_19, hr_19, h⟩ := ob2_some h
      refine g_ci Γ hI (g_runV (As := [.int r_4]) Γ hI (S_X3_remove l X σ_5 8 sh_8 r_4 σ_20 r_19 hr_19) mf_X3_remove (recv_X3 sh_8 Γ hI) gw_197 rfl rfl ⟨Nat.le_of_ble_eq_true rfl, Nat.le_of_ble_eq_true rfl⟩ rfl hl.1 rfl (Nat.le_of_ble_eq_true rfl) dX11_doDeed_46 ⟨Nat.zero_le _, Nat.zero_le _⟩) (fun H locs hI => ?_)
      clear hr_19
      exact g_zret Γ hI dX11_doDeed_49 (Prod.mk.inj (Option.some.inj h)).1 (Prod.mk.inj (Option.some.inj h)).2
  · replace h := ite_pos c_3 h; clear c_3
    refine lv_iconst (v := (0 : Int32)) Γ.1.1 Γ.1.2.1 dX11_doDeed_20 (by decide) ?_
    exact g_zret Γ hI dX11_doDeed_21 (Prod.mk.inj (Option.some.inj h)).1 (Prod.mk.inj (Option.some.inj h)).2
set_option maxRecDepth 20000 in
set_option maxHeartbeats 4000000 in
theorem s_X11_drawn_L59 {p : Program} {l : Launch} {e : Env} {s : State} {m : MethodId} {args : Array Value} {below : List Frame} {meth : Method} {c : Code} {X : GX} (σr : GM) (x : Int32) (Γ : gC X p m meth c cX11_drawn 5 s args RX11 (some .int)) :
    ∀ (σ : GM) (v3 : Int32) (H : Heap) (locs : List Loc) (ls : Array Slot), gI X σ s H locs → lv_has ls 5 [(0, .ref (X.2.1 + 0)), (3, .int v3)] → f_X11_drawn_L59 σ v3 = some (σr, x) →
    W p l e ({ frames := 4, cells := 0, slots := 0, locals := 93 } : Room) s m args below meth c H locs 0 0 (MQ below (gQi X σr x) args s 0 0 (gA X)) (F0 m 59 ls []) := by
  intro σ v3 H locs ls hI hl h
  unfold f_X11_drawn_L59 at h
  refine lv_iload_n Γ.1.1 Γ.1.2.1 dX11_drawn_59 rfl (lv_at hl 1 rfl) ?_
  refine lv_if_le (tgt := 67) Γ.1.1 Γ.1.2.1 dX11_drawn_60 (by decide) (fun c_7 => ?_) (fun c_7 => ?_)
  · replace h := ite_pos c_7 h; clear c_7
    refine lv_iload_n Γ.1.1 Γ.1.2.1 dX11_drawn_67 rfl (lv_at hl 1 rfl) ?_
    exact g_iret Γ hI dX11_drawn_68 (Prod.mk.inj (Option.some.inj h)).1 (Prod.mk.inj (Option.some.inj h)).2
  · replace h := ite_neg c_7 h; clear c_7
    refine lv_aload_n Γ.1.1 Γ.1.2.1 dX11_drawn_63 rfl (lv_at hl 0 rfl) ?_
    obtain ⟨σ_9, hr_8, h⟩ := ob_some h
    refine g_cv Γ hI (g_runV (As := []) Γ hI (S_X11_keepAct l X σ σ_9 hr_8) mf_X11_keepAct (recv_X11 Γ hI) gw_196 rfl rfl ⟨Nat.le_of_ble_eq_true rfl, Nat.le_of_ble_eq_true rfl⟩ rfl hl.1 rfl (Nat.le_of_ble_eq_true rfl) dX11_drawn_64 ⟨Nat.zero_le _, Nat.zero_le _⟩) (fun H locs hI => ?_)
    clear hr_8
    refine lv_iload_n Γ.1.1 Γ.1.2.1 dX11_drawn_67 rfl (lv_at hl 1 rfl) ?_
    exact g_iret Γ hI dX11_drawn_68 (Prod.mk.inj (Option.some.inj h)).1 (Prod.mk.inj (Option.some.inj h)).2
set_option maxRecDepth 20000 in
set_option maxHeartbeats 4000000 in
theorem s_X11_drawn_L37 {p : Program} {l : Launch} {e : Env} {s : State} {m : MethodId} {args : Array Value} {below : List Frame} {meth : Method} {c : Code} {X : GX} (σr : GM) (x : Int32) (Γ : gC X p m meth c cX11_drawn 5 s args RX11 (some .int)) (v1 : Int32) :
    ∀ (k : Nat) (σ : GM) (v3 : Int32) (v4 : Int32) (H : Heap) (locs : List Loc) (ls : Array Slot), gI X σ s H locs → lv_has ls 5 [(0, .ref (X.2.1 + 0)), (1, .int v1), (3, .int v3), (4, .int v4)] → f_X11_drawn_L37 v1 k σ v3 v4 = some (σr, x) →
    W p l e ({ frames := 4, cells := 0, slots := 0, locals := 93 } : Room) s m args below meth c H locs 0 0 (MQ below (gQi X σr x) args s 0 0 (gA X)) (F0 m 37 ls []) := by
  intro k
  induction k with
  | zero =>
    intro σ v3 v4 H locs ls hI hl h
    exact absurd h (by simp [f_X11_drawn_L37])
  | succ k ih =>
    intro σ v3 v4 H locs ls hI hl h
    unfold f_X11_drawn_L37 at h
    refine lv_iload Γ.1.1 Γ.1.2.1 dX11_drawn_37 (lv_at hl 3 rfl) ?_
    refine lv_iload_n Γ.1.1 Γ.1.2.1 dX11_drawn_39 rfl (lv_at hl 1 rfl) ?_
    refine lv_icmp_ge (tgt := 59) Γ.1.1 Γ.1.2.1 dX11_drawn_40 (by decide) (fun c_6 => ?_) (fun c_6 => ?_)
    · replace h := ite_pos c_6 h; clear c_6
      exact s_X11_drawn_L59 σr x Γ σ v3 _ _ _ hI (lv_sub hl [0, 2] rfl) h
    · replace h := ite_neg c_6 h; clear c_6
      refine lv_aload_n Γ.1.1 Γ.1.2.1 dX11_drawn_43 rfl (lv_at hl 0 rfl) ?_
      obtain ⟨σ_11, r_10, hr_10, h⟩ := ob2_some h
      refine g_ci Γ hI (g_runV (As := []) Γ hI (S_X11_doDeed l X σ σ_11 r_10 hr_10) mf_X11_doDeed (recv_X11 Γ hI) gw_204 rfl rfl ⟨Nat.le_of_ble_eq_true rfl, Nat.le_of_ble_eq_true rfl⟩ rfl hl.1 rfl (Nat.le_of_ble_eq_true rfl) dX11_drawn_44 ⟨Nat.zero_le _, Nat.zero_le _⟩) (fun H locs hI => ?_)
      clear hr_10
      refine lv_if_eq (tgt := 53) Γ.1.1 Γ.1.2.1 dX11_drawn_47 (by decide) (fun c_12 => ?_) (fun c_12 => ?_)
      · replace h := ite_pos c_12 h; clear c_12
        obtain ⟨v4_13, e_v4_13, h⟩ := nm_some h
        refine lv_iinc (v := v4_13) (lv' := [(4, .int v4_13), (0, .ref (X.2.1 + 0)), (1, .int v1), (3, .int v3)]) Γ.1.1 Γ.1.2.1 dX11_drawn_53 hl (k := 3) rfl (by rw [e_v4_13]; rfl) (by decide) rfl (fun ls hl => ?_)
        clear e_v4_13
        refine lv_goto (tgt := 37) Γ.1.1 Γ.1.2.1 dX11_drawn_56 (by decide) ?_
        exact ih σ_11 v3 v4_13 _ _ _ hI (lv_sub hl [1, 2, 3, 0] rfl) h
      · replace h := ite_neg c_12 h; clear c_12
        obtain ⟨v3_14, e_v3_14, h⟩ := nm_some h
        refine lv_iinc (v := v3_14) (lv' := [(3, .int v3_14), (0, .ref (X.2.1 + 0)), (1, .int v1), (4, .int v4)]) Γ.1.1 Γ.1.2.1 dX11_drawn_50 hl (k := 2) rfl (by rw [e_v3_14]; rfl) (by decide) rfl (fun ls hl => ?_)
        clear e_v3_14
        obtain ⟨v4_15, e_v4_15, h⟩ := nm_some h
        refine lv_iinc (v := v4_15) (lv' := [(4, .int v4_15), (3, .int v3_14), (0, .ref (X.2.1 + 0)), (1, .int v1)]) Γ.1.1 Γ.1.2.1 dX11_drawn_53 hl (k := 3) rfl (by rw [e_v4_15]; rfl) (by decide) rfl (fun ls hl => ?_)
        clear e_v4_15
        refine lv_goto (tgt := 37) Γ.1.1 Γ.1.2.1 dX11_drawn_56 (by decide) ?_
        exact ih σ_11 v3_14 v4_15 _ _ _ hI (lv_sub hl [2, 3, 1, 0] rfl) h
set_option maxRecDepth 20000 in
set_option maxHeartbeats 4000000 in
theorem S_X11_drawn (l : Launch) (X : GX) (σ : GM) (v1 : Int32) (v2 : Int32) (σr : GM) (x : Int32) (h : f_X11_drawn σ v1 v2 = some (σr, x)) : gMet l yX11_drawn cX11_drawn 5 (some .int) ({ frames := 4, cells := 0, slots := 0, locals := 93 } : Room) X σ [.ref (X.2.1 + 0), .int v1, .int v2] (gQi X σr x) := by
  unfold f_X11_drawn at h
  refine gMet_of (lv := [(0, .ref (X.2.1 + 0)), (1, .int v1), (2, .int v2)]) (by decide) rfl (Nat.le_of_ble_eq_true rfl) rfl (fun p e s m below meth c H ls Γ hI hl => ?_)
  refine lv_iload_n Γ.1.1 Γ.1.2.1 dX11_drawn_0 rfl (lv_at hl 1 rfl) ?_
  refine lv_iconst (v := (1 : Int32)) Γ.1.1 Γ.1.2.1 dX11_drawn_1 (by decide) ?_
  refine lv_icmp_lt (tgt := 11) Γ.1.1 Γ.1.2.1 dX11_drawn_2 (by decide) (fun c_1 => ?_) (fun c_1 => ?_)
  · replace h := ite_pos c_1 h; clear c_1
    refine lv_iconst (v := (-1 : Int32)) Γ.1.1 Γ.1.2.1 dX11_drawn_11 (by decide) ?_
    exact g_iret Γ hI dX11_drawn_12 (Prod.mk.inj (Option.some.inj h)).1 (Prod.mk.inj (Option.some.inj h)).2
  · replace h := ite_neg c_1 h; clear c_1
    refine lv_iload_n Γ.1.1 Γ.1.2.1 dX11_drawn_5 rfl (lv_at hl 1 rfl) ?_
    refine lv_bipush (v := (60 : Int32)) Γ.1.1 Γ.1.2.1 dX11_drawn_6 (by decide) ?_
    refine lv_icmp_le (tgt := 13) Γ.1.1 Γ.1.2.1 dX11_drawn_8 (by decide) (fun c_2 => ?_) (fun c_2 => ?_)
    · replace h := ite_pos c_2 h; clear c_2
      refine lv_aload_n Γ.1.1 Γ.1.2.1 dX11_drawn_13 rfl (lv_at hl 0 rfl) ?_
      refine get_X11_past Γ hI gw_109 dX11_drawn_14 ?_
      refine lv_aload_n Γ.1.1 Γ.1.2.1 dX11_drawn_17 rfl (lv_at hl 0 rfl) ?_
      refine get_X11_net Γ hI gw_106 dX11_drawn_18 ?_
      obtain ⟨σ_4, hr_3, h⟩ := ob_some h
      refine g_cv Γ hI (g_runV (As := [.ref (X.2.1 + 8)]) Γ hI (S_X5_note l X σ σ_4 hr_3) mf_X5_note (recv_X5 Γ hI) gw_194 rfl rfl ⟨Nat.le_of_ble_eq_true rfl, Nat.le_of_ble_eq_true rfl⟩ rfl hl.1 rfl (Nat.le_of_ble_eq_true rfl) dX11_drawn_21 ⟨Nat.zero_le _, Nat.zero_le _⟩) (fun H locs hI => ?_)
      clear hr_3
      refine lv_aload_n Γ.1.1 Γ.1.2.1 dX11_drawn_24 rfl (lv_at hl 0 rfl) ?_
      refine get_X11_draws Γ hI gw_201 dX11_drawn_25 ?_
      refine lv_iload_n Γ.1.1 Γ.1.2.1 dX11_drawn_28 rfl (lv_at hl 2 rfl) ?_
      refine put_X1_seed Γ hI gw_203 dX11_drawn_29 (fun H locs hI => ?_)
      obtain ⟨σ_5, e_m_5, h⟩ := nm_some h
      rw [← e_m_5] at hI; clear e_m_5
      refine lv_iconst (v := (0 : Int32)) Γ.1.1 Γ.1.2.1 dX11_drawn_32 (by decide) ?_
      refine lv_istore_n (lv' := [(3, .int (0 : Int32)), (0, .ref (X.2.1 + 0)), (1, .int v1), (2, .int v2)]) Γ.1.1 Γ.1.2.1 dX11_drawn_33 rfl hl (by decide) rfl (fun ls hl => ?_)
      refine lv_iconst (v := (0 : Int32)) Γ.1.1 Γ.1.2.1 dX11_drawn_34 (by decide) ?_
      refine lv_istore (lv' := [(4, .int (0 : Int32)), (3, .int (0 : Int32)), (0, .ref (X.2.1 + 0)), (1, .int v1), (2, .int v2)]) Γ.1.1 Γ.1.2.1 dX11_drawn_35 hl (by decide) rfl (fun ls hl => ?_)
      exact s_X11_drawn_L37 σr x Γ v1 _ σ_5 (0 : Int32) (0 : Int32) _ _ _ hI (lv_sub hl [2, 3, 1, 0] rfl) h
    · replace h := ite_neg c_2 h; clear c_2
      refine lv_iconst (v := (-1 : Int32)) Γ.1.1 Γ.1.2.1 dX11_drawn_11 (by decide) ?_
      exact g_iret Γ hI dX11_drawn_12 (Prod.mk.inj (Option.some.inj h)).1 (Prod.mk.inj (Option.some.inj h)).2
set_option maxRecDepth 20000 in
set_option maxHeartbeats 4000000 in
theorem S_X5_giveLatest (l : Launch) (X : GX) (σ : GM) (σr : GM) (x : Int32) (h : f_X5_giveLatest σ = some (σr, x)) : gMet l yX5_giveLatest cX5_giveLatest 3 (some .boolean) ({ frames := 1, cells := 0, slots := 0, locals := 22 } : Room) X σ [.ref (X.2.1 + 11), .ref (X.2.1 + 8)] (gQi X σr x) := by
  unfold f_X5_giveLatest at h
  refine gMet_of (lv := [(0, .ref (X.2.1 + 11)), (1, .ref (X.2.1 + 8))]) (by decide) rfl (Nat.le_of_ble_eq_true rfl) rfl (fun p e s m below meth c H ls Γ hI hl => ?_)
  refine lv_aload_n Γ.1.1 Γ.1.2.1 dX5_giveLatest_0 rfl (lv_at hl 0 rfl) ?_
  refine lv_aload_n Γ.1.1 Γ.1.2.1 dX5_giveLatest_1 rfl (lv_at hl 0 rfl) ?_
  refine get_X5_latest Γ hI gw_173 dX5_giveLatest_2 ?_
  obtain ⟨r_1, hr_1, h⟩ := ob_some h
  refine g_cqq Γ hI (g_runV (As := [.int (σ.1 11 2)]) Γ hI (S_X5_placeAt l X σ (σ.1 11 2) r_1 hr_1) mf_X5_placeAt (recv_X5 Γ hI) gw_174 rfl rfl ⟨Nat.le_of_ble_eq_true rfl, Nat.le_of_ble_eq_true rfl⟩ rfl hl.1 rfl (Nat.le_of_ble_eq_true rfl) dX5_giveLatest_5 ⟨Nat.zero_le _, Nat.zero_le _⟩) (fun H locs hI e_r_3 => ?_) (fun v_4 H locs hI e_r_3 => ?_)
  · subst e_r_3; replace h := qm_none h
    refine lv_astore_nN (lv' := [(2, .null), (0, .ref (X.2.1 + 11)), (1, .ref (X.2.1 + 8))]) Γ.1.1 Γ.1.2.1 dX5_giveLatest_8 rfl hl (by decide) rfl (fun ls hl => ?_)
    refine lv_aload_n Γ.1.1 Γ.1.2.1 dX5_giveLatest_9 rfl (lv_at hl 1 rfl) ?_
    refine get_X5_count Γ hI gw_99 dX5_giveLatest_10 ?_
    refine lv_if_le (tgt := 20) Γ.1.1 Γ.1.2.1 dX5_giveLatest_13 (by decide) (fun c_5 => ?_) (fun c_5 => ?_)
    · replace h := ite_pos c_5 h; clear c_5
      refine lv_iconst (v := (0 : Int32)) Γ.1.1 Γ.1.2.1 dX5_giveLatest_20 (by decide) ?_
      exact g_zret Γ hI dX5_giveLatest_21 (Prod.mk.inj (Option.some.inj h)).1 (Prod.mk.inj (Option.some.inj h)).2
    · replace h := ite_neg c_5 h; clear c_5
      refine lv_aload_nN Γ.1.1 Γ.1.2.1 dX5_giveLatest_16 rfl (lv_at hl 0 rfl) ?_
      refine lv_ifnonnullN Γ.1.1 Γ.1.2.1 dX5_giveLatest_17 ?_
      refine lv_iconst (v := (0 : Int32)) Γ.1.1 Γ.1.2.1 dX5_giveLatest_20 (by decide) ?_
      exact g_zret Γ hI dX5_giveLatest_21 (Prod.mk.inj (Option.some.inj h)).1 (Prod.mk.inj (Option.some.inj h)).2
  · subst e_r_3; replace h := qm_some h; obtain ⟨hv_4, h⟩ := chkS_some h
    refine lv_astore_n (lv' := [(2, .ref (X.2.1 + v_4)), (0, .ref (X.2.1 + 11)), (1, .ref (X.2.1 + 8))]) Γ.1.1 Γ.1.2.1 dX5_giveLatest_8 rfl hl (by decide) rfl (fun ls hl => ?_)
    refine lv_aload_n Γ.1.1 Γ.1.2.1 dX5_giveLatest_9 rfl (lv_at hl 1 rfl) ?_
    refine get_X5_count Γ hI gw_99 dX5_giveLatest_10 ?_
    refine lv_if_le (tgt := 20) Γ.1.1 Γ.1.2.1 dX5_giveLatest_13 (by decide) (fun c_6 => ?_) (fun c_6 => ?_)
    · replace h := ite_pos c_6 h; clear c_6
      refine lv_iconst (v := (0 : Int32)) Γ.1.1 Γ.1.2.1 dX5_giveLatest_20 (by decide) ?_
      exact g_zret Γ hI dX5_giveLatest_21 (Prod.mk.inj (Option.some.inj h)).1 (Prod.mk.inj (Option.some.inj h)).2
    · replace h := ite_neg c_6 h; clear c_6
      refine lv_aload_n Γ.1.1 Γ.1.2.1 dX5_giveLatest_16 rfl (lv_at hl 0 rfl) ?_
      refine lv_ifnonnull (tgt := 22) Γ.1.1 Γ.1.2.1 dX5_giveLatest_17 (by decide) ?_
      refine lv_aload_n Γ.1.1 Γ.1.2.1 dX5_giveLatest_22 rfl (lv_at hl 2 rfl) ?_
      refine lv_aload_n Γ.1.1 Γ.1.2.1 dX5_giveLatest_23 rfl (lv_at hl 0 rfl) ?_
      obtain ⟨σ_8, hr_7, h⟩ := ob_some h
      refine g_cv Γ hI (g_runV (As := [.ref (X.2.1 + v_4)]) Γ hI (S_X3_copyFrom l X σ 8 v_4 sh_8 hv_4 σ_8 hr_7) mf_X3_copyFrom (recv_X3 sh_8 Γ hI) gw_175 rfl rfl ⟨Nat.le_of_ble_eq_true rfl, Nat.le_of_ble_eq_true rfl⟩ rfl hl.1 rfl (Nat.le_of_ble_eq_true rfl) dX5_giveLatest_24 ⟨Nat.zero_le _, Nat.zero_le _⟩) (fun H locs hI => ?_)
      clear hr_7
      refine lv_aload_n Γ.1.1 Γ.1.2.1 dX5_giveLatest_27 rfl (lv_at hl 1 rfl) ?_
      refine lv_aload_n Γ.1.1 Γ.1.2.1 dX5_giveLatest_28 rfl (lv_at hl 1 rfl) ?_
      refine get_X5_latest Γ hI gw_173 dX5_giveLatest_29 ?_
      refine lv_bipush (v := (9 : Int32)) Γ.1.1 Γ.1.2.1 dX5_giveLatest_32 (by decide) ?_
      refine lv_iadd Γ.1.1 Γ.1.2.1 dX5_giveLatest_34 ?_
      refine lv_iconst (v := (1 : Int32)) Γ.1.1 Γ.1.2.1 dX5_giveLatest_35 (by decide) ?_
      refine lv_isub Γ.1.1 Γ.1.2.1 dX5_giveLatest_36 ?_
      refine lv_bipush (v := (9 : Int32)) Γ.1.1 Γ.1.2.1 dX5_giveLatest_37 (by decide) ?_
      obtain ⟨hz_9, h⟩ := nz_some h
      refine lv_irem Γ.1.1 Γ.1.2.1 dX5_giveLatest_39 hz_9 ?_
      refine put_X5_latest Γ hI gw_173 dX5_giveLatest_40 (fun H locs hI => ?_)
      obtain ⟨σ_10, e_m_10, h⟩ := nm_some h
      rw [← e_m_10] at hI; clear e_m_10
      refine lv_aload_n Γ.1.1 Γ.1.2.1 dX5_giveLatest_43 rfl (lv_at hl 1 rfl) ?_
      refine lv_dup Γ.1.1 Γ.1.2.1 dX5_giveLatest_44 rfl ?_
      refine get_X5_count Γ hI gw_99 dX5_giveLatest_45 ?_
      refine lv_iconst (v := (1 : Int32)) Γ.1.1 Γ.1.2.1 dX5_giveLatest_48 (by decide) ?_
      refine lv_isub Γ.1.1 Γ.1.2.1 dX5_giveLatest_49 ?_
      refine put_X5_count Γ hI gw_99 dX5_giveLatest_50 (fun H locs hI => ?_)
      obtain ⟨σ_11, e_m_11, h⟩ := nm_some h
      rw [← e_m_11] at hI; clear e_m_11
      refine lv_iconst (v := (1 : Int32)) Γ.1.1 Γ.1.2.1 dX5_giveLatest_53 (by decide) ?_
      exact g_zret Γ hI dX5_giveLatest_54 (Prod.mk.inj (Option.some.inj h)).1 (Prod.mk.inj (Option.some.inj h)).2
set_option maxRecDepth 20000 in
set_option maxHeartbeats 4000000 in
theorem S_X11_undo (l : Launch) (X : GX) (σ : GM) (σr : GM) (x : Int32) (h : f_X11_undo σ = some (σr, x)) : gMet l yX11_undo cX11_undo 1 (some .int) ({ frames := 2, cells := 0, slots := 0, locals := 44 } : Room) X σ [.ref (X.2.1 + 0)] (gQi X σr x) := by
  unfold f_X11_undo at h
  refine gMet_of (lv := [(0, .ref (X.2.1 + 0))]) (by decide) rfl (Nat.le_of_ble_eq_true rfl) rfl (fun p e s m below meth c H ls Γ hI hl => ?_)
  refine lv_aload_n Γ.1.1 Γ.1.2.1 dX11_undo_0 rfl (lv_at hl 0 rfl) ?_
  refine get_X11_past Γ hI gw_109 dX11_undo_1 ?_
  refine lv_aload_n Γ.1.1 Γ.1.2.1 dX11_undo_4 rfl (lv_at hl 0 rfl) ?_
  refine get_X11_net Γ hI gw_106 dX11_undo_5 ?_
  obtain ⟨σ_2, r_1, hr_1, h⟩ := ob2_some h
  refine g_ci Γ hI (g_runV (As := [.ref (X.2.1 + 8)]) Γ hI (S_X5_giveLatest l X σ σ_2 r_1 hr_1) mf_X5_giveLatest (recv_X5 Γ hI) gw_205 rfl rfl ⟨Nat.le_of_ble_eq_true rfl, Nat.le_of_ble_eq_true rfl⟩ rfl hl.1 rfl (Nat.le_of_ble_eq_true rfl) dX11_undo_8 ⟨Nat.zero_le _, Nat.zero_le _⟩) (fun H locs hI => ?_)
  clear hr_1
  refine lv_if_ne (tgt := 16) Γ.1.1 Γ.1.2.1 dX11_undo_11 (by decide) (fun c_3 => ?_) (fun c_3 => ?_)
  · replace h := ite_neg c_3 h; clear c_3
    refine lv_aload_n Γ.1.1 Γ.1.2.1 dX11_undo_16 rfl (lv_at hl 0 rfl) ?_
    obtain ⟨σ_5, hr_4, h⟩ := ob_some h
    refine g_cv Γ hI (g_runV (As := []) Γ hI (S_X11_markChanged l X σ_2 σ_5 hr_4) mf_X11_markChanged (recv_X11 Γ hI) gw_111 rfl rfl ⟨Nat.le_of_ble_eq_true rfl, Nat.le_of_ble_eq_true rfl⟩ rfl hl.1 rfl (Nat.le_of_ble_eq_true rfl) dX11_undo_17 ⟨Nat.zero_le _, Nat.zero_le _⟩) (fun H locs hI => ?_)
    clear hr_4
    refine lv_aload_n Γ.1.1 Γ.1.2.1 dX11_undo_20 rfl (lv_at hl 0 rfl) ?_
    refine get_X11_past Γ hI gw_109 dX11_undo_21 ?_
    refine get_X5_count Γ hI gw_120 dX11_undo_24 ?_
    exact g_iret Γ hI dX11_undo_27 (Prod.mk.inj (Option.some.inj h)).1 (Prod.mk.inj (Option.some.inj h)).2
  · replace h := ite_pos c_3 h; clear c_3
    refine lv_iconst (v := (-1 : Int32)) Γ.1.1 Γ.1.2.1 dX11_undo_14 (by decide) ?_
    exact g_iret Γ hI dX11_undo_15 (Prod.mk.inj (Option.some.inj h)).1 (Prod.mk.inj (Option.some.inj h)).2
set_option maxRecDepth 20000 in
set_option maxHeartbeats 4000000 in
theorem S_X11_keptAt (l : Launch) (X : GX) (σ : GM) (v1 : Int32) (x : Option Nat) (h : f_X11_keptAt σ v1 = some x) : gMet l yX11_keptAt cX11_keptAt 2 (some (.object "RingCutters$Kept")) ({ frames := 0, cells := 0, slots := 0, locals := 0 } : Room) X σ [.ref (X.2.1 + 0), .int v1] (gQq X σ x) := by
  unfold f_X11_keptAt at h
  refine gMet_of (lv := [(0, .ref (X.2.1 + 0)), (1, .int v1)]) (by decide) rfl (Nat.le_of_ble_eq_true rfl) rfl (fun p e s m below meth c H ls Γ hI hl => ?_)
  refine lv_iload_n Γ.1.1 Γ.1.2.1 dX11_keptAt_0 rfl (lv_at hl 1 rfl) ?_
  refine lv_if_ne (tgt := 11) Γ.1.1 Γ.1.2.1 dX11_keptAt_1 (by decide) (fun c_1 => ?_) (fun c_1 => ?_)
  · replace h := ite_neg c_1 h; clear c_1
    refine lv_iload_n Γ.1.1 Γ.1.2.1 dX11_keptAt_11 rfl (lv_at hl 1 rfl) ?_
    refine lv_iconst (v := (1 : Int32)) Γ.1.1 Γ.1.2.1 dX11_keptAt_12 (by decide) ?_
    refine lv_icmp_ne (tgt := 23) Γ.1.1 Γ.1.2.1 dX11_keptAt_13 (by decide) (fun c_2 => ?_) (fun c_2 => ?_)
    · replace h := ite_neg c_2 h; clear c_2
      refine lv_null Γ.1.1 Γ.1.2.1 dX11_keptAt_23 ?_
      exact g_aret (x := none) rfl Γ hI dX11_keptAt_24 rfl (Option.some.inj h)
    · replace h := ite_pos c_2 h; clear c_2
      refine lv_aload_n Γ.1.1 Γ.1.2.1 dX11_keptAt_16 rfl (lv_at hl 0 rfl) ?_
      refine get_X11_imageOne Γ hI gw_206 dX11_keptAt_17 ?_
      refine lv_goto (tgt := 24) Γ.1.1 Γ.1.2.1 dX11_keptAt_20 (by decide) ?_
      exact g_aret (x := (some 44)) rfl Γ hI dX11_keptAt_24 rfl (Option.some.inj h)
  · replace h := ite_pos c_1 h; clear c_1
    refine lv_aload_n Γ.1.1 Γ.1.2.1 dX11_keptAt_4 rfl (lv_at hl 0 rfl) ?_
    refine get_X11_imageZero Γ hI gw_207 dX11_keptAt_5 ?_
    refine lv_goto (tgt := 24) Γ.1.1 Γ.1.2.1 dX11_keptAt_8 (by decide) ?_
    exact g_aret (x := (some 40)) rfl Γ hI dX11_keptAt_24 rfl (Option.some.inj h)
set_option maxRecDepth 20000 in
set_option maxHeartbeats 4000000 in
theorem S_X11_image (l : Launch) (X : GX) (σ : GM) (v1 : Int32) (σr : GM) (x : Int32) (h : f_X11_image σ v1 = some (σr, x)) : gMet l yX11_image cX11_image 3 (some .boolean) ({ frames := 1, cells := 0, slots := 0, locals := 22 } : Room) X σ [.ref (X.2.1 + 0), .int v1] (gQi X σr x) := by
  unfold f_X11_image at h
  refine gMet_of (lv := [(0, .ref (X.2.1 + 0)), (1, .int v1)]) (by decide) rfl (Nat.le_of_ble_eq_true rfl) rfl (fun p e s m below meth c H ls Γ hI hl => ?_)
  refine lv_aload_n Γ.1.1 Γ.1.2.1 dX11_image_0 rfl (lv_at hl 0 rfl) ?_
  refine lv_iload_n Γ.1.1 Γ.1.2.1 dX11_image_1 rfl (lv_at hl 1 rfl) ?_
  obtain ⟨r_1, hr_1, h⟩ := ob_some h
  refine g_cqq Γ hI (g_runV (As := [.int v1]) Γ hI (S_X11_keptAt l X σ v1 r_1 hr_1) mf_X11_keptAt (recv_X11 Γ hI) gw_208 rfl rfl ⟨Nat.le_of_ble_eq_true rfl, Nat.le_of_ble_eq_true rfl⟩ rfl hl.1 rfl (Nat.le_of_ble_eq_true rfl) dX11_image_2 ⟨Nat.zero_le _, Nat.zero_le _⟩) (fun H locs hI e_r_3 => ?_) (fun v_4 H locs hI e_r_3 => ?_)
  · subst e_r_3; replace h := qm_none h
    refine lv_astore_nN (lv' := [(2, .null), (0, .ref (X.2.1 + 0)), (1, .int v1)]) Γ.1.1 Γ.1.2.1 dX11_image_5 rfl hl (by decide) rfl (fun ls hl => ?_)
    refine lv_aload_nN Γ.1.1 Γ.1.2.1 dX11_image_6 rfl (lv_at hl 0 rfl) ?_
    refine lv_ifnonnullN Γ.1.1 Γ.1.2.1 dX11_image_7 ?_
    refine lv_iconst (v := (0 : Int32)) Γ.1.1 Γ.1.2.1 dX11_image_10 (by decide) ?_
    exact g_zret Γ hI dX11_image_11 (Prod.mk.inj (Option.some.inj h)).1 (Prod.mk.inj (Option.some.inj h)).2
  · subst e_r_3; replace h := qm_some h; obtain ⟨hv_4, h⟩ := chkS_some h
    refine lv_astore_n (lv' := [(2, .ref (X.2.1 + v_4)), (0, .ref (X.2.1 + 0)), (1, .int v1)]) Γ.1.1 Γ.1.2.1 dX11_image_5 rfl hl (by decide) rfl (fun ls hl => ?_)
    refine lv_aload_n Γ.1.1 Γ.1.2.1 dX11_image_6 rfl (lv_at hl 0 rfl) ?_
    refine lv_ifnonnull (tgt := 12) Γ.1.1 Γ.1.2.1 dX11_image_7 (by decide) ?_
    refine lv_aload_n Γ.1.1 Γ.1.2.1 dX11_image_12 rfl (lv_at hl 0 rfl) ?_
    refine get_X2_copy hv_4 Γ hI gw_209 dX11_image_13 ?_
    refine lv_aload_n Γ.1.1 Γ.1.2.1 dX11_image_16 rfl (lv_at hl 1 rfl) ?_
    refine get_X11_net Γ hI gw_106 dX11_image_17 ?_
    obtain ⟨σ_6, hr_5, h⟩ := ob_some h
    refine g_cv Γ hI (g_runV (As := [.ref (X.2.1 + 8)]) Γ hI (S_X3_copyFrom l X σ (v_4 + 1) 8 (shK1 hv_4) sh_8 σ_6 hr_5) mf_X3_copyFrom (recv_X3 (shK1 hv_4) Γ hI) gw_108 rfl rfl ⟨Nat.le_of_ble_eq_true rfl, Nat.le_of_ble_eq_true rfl⟩ rfl hl.1 rfl (Nat.le_of_ble_eq_true rfl) dX11_image_20 ⟨Nat.zero_le _, Nat.zero_le _⟩) (fun H locs hI => ?_)
    clear hr_5
    refine lv_aload_n Γ.1.1 Γ.1.2.1 dX11_image_23 rfl (lv_at hl 0 rfl) ?_
    refine lv_iconst (v := (1 : Int32)) Γ.1.1 Γ.1.2.1 dX11_image_24 (by decide) ?_
    refine put_X2_filled hv_4 Γ hI (by decide) (by decide) gw_210 dX11_image_25 (fun H locs hI => ?_)
    obtain ⟨σ_7, e_m_7, h⟩ := nm_some h
    rw [← e_m_7] at hI; clear e_m_7
    refine lv_iconst (v := (1 : Int32)) Γ.1.1 Γ.1.2.1 dX11_image_28 (by decide) ?_
    exact g_zret Γ hI dX11_image_29 (Prod.mk.inj (Option.some.inj h)).1 (Prod.mk.inj (Option.some.inj h)).2
set_option maxRecDepth 20000 in
set_option maxHeartbeats 4000000 in
theorem S_X11_restore (l : Launch) (X : GX) (σ : GM) (v1 : Int32) (σr : GM) (x : Int32) (h : f_X11_restore σ v1 = some (σr, x)) : gMet l yX11_restore cX11_restore 3 (some .boolean) ({ frames := 1, cells := 0, slots := 0, locals := 22 } : Room) X σ [.ref (X.2.1 + 0), .int v1] (gQi X σr x) := by
  unfold f_X11_restore at h
  refine gMet_of (lv := [(0, .ref (X.2.1 + 0)), (1, .int v1)]) (by decide) rfl (Nat.le_of_ble_eq_true rfl) rfl (fun p e s m below meth c H ls Γ hI hl => ?_)
  refine lv_aload_n Γ.1.1 Γ.1.2.1 dX11_restore_0 rfl (lv_at hl 0 rfl) ?_
  refine lv_iload_n Γ.1.1 Γ.1.2.1 dX11_restore_1 rfl (lv_at hl 1 rfl) ?_
  obtain ⟨r_1, hr_1, h⟩ := ob_some h
  refine g_cqq Γ hI (g_runV (As := [.int v1]) Γ hI (S_X11_keptAt l X σ v1 r_1 hr_1) mf_X11_keptAt (recv_X11 Γ hI) gw_208 rfl rfl ⟨Nat.le_of_ble_eq_true rfl, Nat.le_of_ble_eq_true rfl⟩ rfl hl.1 rfl (Nat.le_of_ble_eq_true rfl) dX11_restore_2 ⟨Nat.zero_le _, Nat.zero_le _⟩) (fun H locs hI e_r_3 => ?_) (fun v_4 H locs hI e_r_3 => ?_)
  · subst e_r_3; replace h := qm_none h
    refine lv_astore_nN (lv' := [(2, .null), (0, .ref (X.2.1 + 0)), (1, .int v1)]) Γ.1.1 Γ.1.2.1 dX11_restore_5 rfl hl (by decide) rfl (fun ls hl => ?_)
    refine lv_aload_nN Γ.1.1 Γ.1.2.1 dX11_restore_6 rfl (lv_at hl 0 rfl) ?_
    refine lv_ifnullN (tgt := 17) Γ.1.1 Γ.1.2.1 dX11_restore_7 (by decide) ?_
    refine lv_iconst (v := (0 : Int32)) Γ.1.1 Γ.1.2.1 dX11_restore_17 (by decide) ?_
    exact g_zret Γ hI dX11_restore_18 (Prod.mk.inj (Option.some.inj h)).1 (Prod.mk.inj (Option.some.inj h)).2
  · subst e_r_3; replace h := qm_some h; obtain ⟨hv_4, h⟩ := chkS_some h
    refine lv_astore_n (lv' := [(2, .ref (X.2.1 + v_4)), (0, .ref (X.2.1 + 0)), (1, .int v1)]) Γ.1.1 Γ.1.2.1 dX11_restore_5 rfl hl (by decide) rfl (fun ls hl => ?_)
    refine lv_aload_n Γ.1.1 Γ.1.2.1 dX11_restore_6 rfl (lv_at hl 0 rfl) ?_
    refine lv_ifnull Γ.1.1 Γ.1.2.1 dX11_restore_7 ?_
    refine lv_aload_n Γ.1.1 Γ.1.2.1 dX11_restore_10 rfl (lv_at hl 0 rfl) ?_
    refine get_X2_filled hv_4 Γ hI gw_210 dX11_restore_11 ?_
    refine lv_if_ne (tgt := 19) Γ.1.1 Γ.1.2.1 dX11_restore_14 (by decide) (fun c_5 => ?_) (fun c_5 => ?_)
    · replace h := ite_neg c_5 h; clear c_5
      refine lv_aload_n Γ.1.1 Γ.1.2.1 dX11_restore_19 rfl (lv_at hl 1 rfl) ?_
      refine get_X11_net Γ hI gw_106 dX11_restore_20 ?_
      refine lv_aload_n Γ.1.1 Γ.1.2.1 dX11_restore_23 rfl (lv_at hl 0 rfl) ?_
      refine get_X2_copy hv_4 Γ hI gw_209 dX11_restore_24 ?_
      obtain ⟨σ_7, hr_6, h⟩ := ob_some h
      refine g_cv Γ hI (g_runV (As := [.ref (X.2.1 + (v_4 + 1))]) Γ hI (S_X3_copyFrom l X σ 8 (v_4 + 1) sh_8 (shK1 hv_4) σ_7 hr_6) mf_X3_copyFrom (recv_X3 sh_8 Γ hI) gw_108 rfl rfl ⟨Nat.le_of_ble_eq_true rfl, Nat.le_of_ble_eq_true rfl⟩ rfl hl.1 rfl (Nat.le_of_ble_eq_true rfl) dX11_restore_27 ⟨Nat.zero_le _, Nat.zero_le _⟩) (fun H locs hI => ?_)
      clear hr_6
      refine lv_aload_n Γ.1.1 Γ.1.2.1 dX11_restore_30 rfl (lv_at hl 1 rfl) ?_
      refine get_X11_past Γ hI gw_109 dX11_restore_31 ?_
      obtain ⟨σ_9, hr_8, h⟩ := ob_some h
      refine g_cv Γ hI (g_runV (As := []) Γ hI (S_X5_forget l X σ_7 σ_9 hr_8) mf_X5_forget (recv_X5 Γ hI) gw_110 rfl rfl ⟨Nat.le_of_ble_eq_true rfl, Nat.le_of_ble_eq_true rfl⟩ rfl hl.1 rfl (Nat.le_of_ble_eq_true rfl) dX11_restore_34 ⟨Nat.zero_le _, Nat.zero_le _⟩) (fun H locs hI => ?_)
      clear hr_8
      refine lv_aload_n Γ.1.1 Γ.1.2.1 dX11_restore_37 rfl (lv_at hl 1 rfl) ?_
      obtain ⟨σ_11, hr_10, h⟩ := ob_some h
      refine g_cv Γ hI (g_runV (As := []) Γ hI (S_X11_markChanged l X σ_9 σ_11 hr_10) mf_X11_markChanged (recv_X11 Γ hI) gw_111 rfl rfl ⟨Nat.le_of_ble_eq_true rfl, Nat.le_of_ble_eq_true rfl⟩ rfl hl.1 rfl (Nat.le_of_ble_eq_true rfl) dX11_restore_38 ⟨Nat.zero_le _, Nat.zero_le _⟩) (fun H locs hI => ?_)
      clear hr_10
      refine lv_iconst (v := (1 : Int32)) Γ.1.1 Γ.1.2.1 dX11_restore_41 (by decide) ?_
      exact g_zret Γ hI dX11_restore_42 (Prod.mk.inj (Option.some.inj h)).1 (Prod.mk.inj (Option.some.inj h)).2
    · replace h := ite_pos c_5 h; clear c_5
      refine lv_iconst (v := (0 : Int32)) Γ.1.1 Γ.1.2.1 dX11_restore_17 (by decide) ?_
      exact g_zret Γ hI dX11_restore_18 (Prod.mk.inj (Option.some.inj h)).1 (Prod.mk.inj (Option.some.inj h)).2
set_option maxRecDepth 20000 in
set_option maxHeartbeats 4000000 in
theorem S_X12_thrown (l : Launch) (X : GX) (σ : GM) (x : Int32) (h : f_X12_thrown σ = some x) : gMet l yX12_thrown cX12_thrown 1 (some .int) ({ frames := 0, cells := 0, slots := 0, locals := 0 } : Room) X σ [.ref (X.2.1 + 60)] (gQi X σ x) := by
  unfold f_X12_thrown at h
  refine gMet_of (lv := [(0, .ref (X.2.1 + 60))]) (by decide) rfl (Nat.le_of_ble_eq_true rfl) rfl (fun p e s m below meth c H ls Γ hI hl => ?_)
  refine lv_aload_n Γ.1.1 Γ.1.2.1 dX12_thrown_0 rfl (lv_at hl 0 rfl) ?_
  refine get_X12_thrown Γ hI gw_211 dX12_thrown_1 ?_
  exact g_iret Γ hI dX12_thrown_4 rfl (Option.some.inj h)
set_option maxRecDepth 20000 in
set_option maxHeartbeats 4000000 in
theorem S_X12_refuse (l : Launch) (X : GX) (σ : GM) (σr : GM) (x : Int32) (h : f_X12_refuse σ = some (σr, x)) : gMet l yX12_refuse cX12_refuse 1 (some .int) ({ frames := 0, cells := 0, slots := 0, locals := 0 } : Room) X σ [.ref (X.2.1 + 60)] (gQi X σr x) := by
  unfold f_X12_refuse at h
  refine gMet_of (lv := [(0, .ref (X.2.1 + 60))]) (by decide) rfl (Nat.le_of_ble_eq_true rfl) rfl (fun p e s m below meth c H ls Γ hI hl => ?_)
  refine lv_aload_n Γ.1.1 Γ.1.2.1 dX12_refuse_0 rfl (lv_at hl 0 rfl) ?_
  refine lv_iconst (v := (1 : Int32)) Γ.1.1 Γ.1.2.1 dX12_refuse_1 (by decide) ?_
  refine put_X12_thrown Γ hI gw_211 dX12_refuse_2 (fun H locs hI => ?_)
  obtain ⟨σ_1, e_m_1, h⟩ := nm_some h
  rw [← e_m_1] at hI; clear e_m_1
  refine lv_iconst (v := (0 : Int32)) Γ.1.1 Γ.1.2.1 dX12_refuse_5 (by decide) ?_
  exact g_iret Γ hI dX12_refuse_6 (Prod.mk.inj (Option.some.inj h)).1 (Prod.mk.inj (Option.some.inj h)).2
set_option maxRecDepth 20000 in
set_option maxHeartbeats 4000000 in
theorem S_X12_isIn (l : Launch) (X : GX) (σ : GM) (v0 : Int32) (v1 : Int32) (v2 : Int32) (x : Int32) (h : f_X12_isIn σ v0 v1 v2 = some x) : gMet l yX12_isIn cX12_isIn 3 (some .boolean) ({ frames := 0, cells := 0, slots := 0, locals := 0 } : Room) X σ [.int v0, .int v1, .int v2] (gQi X σ x) := by
  unfold f_X12_isIn at h
  refine gMet_of (lv := [(0, .int v0), (1, .int v1), (2, .int v2)]) (by decide) rfl (Nat.le_of_ble_eq_true rfl) rfl (fun p e s m below meth c H ls Γ hI hl => ?_)
  refine lv_iload_n Γ.1.1 Γ.1.2.1 dX12_isIn_0 rfl (lv_at hl 0 rfl) ?_
  refine lv_iload_n Γ.1.1 Γ.1.2.1 dX12_isIn_1 rfl (lv_at hl 1 rfl) ?_
  refine lv_icmp_lt (tgt := 14) Γ.1.1 Γ.1.2.1 dX12_isIn_2 (by decide) (fun c_1 => ?_) (fun c_1 => ?_)
  · replace h := ite_pos c_1 h; clear c_1
    refine lv_iconst (v := (0 : Int32)) Γ.1.1 Γ.1.2.1 dX12_isIn_14 (by decide) ?_
    exact g_zret Γ hI dX12_isIn_15 rfl (Option.some.inj h)
  · replace h := ite_neg c_1 h; clear c_1
    refine lv_iload_n Γ.1.1 Γ.1.2.1 dX12_isIn_5 rfl (lv_at hl 0 rfl) ?_
    refine lv_iload_n Γ.1.1 Γ.1.2.1 dX12_isIn_6 rfl (lv_at hl 2 rfl) ?_
    refine lv_icmp_gt (tgt := 14) Γ.1.1 Γ.1.2.1 dX12_isIn_7 (by decide) (fun c_2 => ?_) (fun c_2 => ?_)
    · replace h := ite_pos c_2 h; clear c_2
      refine lv_iconst (v := (0 : Int32)) Γ.1.1 Γ.1.2.1 dX12_isIn_14 (by decide) ?_
      exact g_zret Γ hI dX12_isIn_15 rfl (Option.some.inj h)
    · replace h := ite_neg c_2 h; clear c_2
      refine lv_iconst (v := (1 : Int32)) Γ.1.1 Γ.1.2.1 dX12_isIn_10 (by decide) ?_
      refine lv_goto (tgt := 15) Γ.1.1 Γ.1.2.1 dX12_isIn_11 (by decide) ?_
      exact g_zret Γ hI dX12_isIn_15 rfl (Option.some.inj h)
set_option maxRecDepth 20000 in
set_option maxHeartbeats 4000000 in
theorem S_X12_has (l : Launch) (X : GX) (σ : GM) (v0 : Int32) (v1 : Int32) (x : Int32) (h : f_X12_has σ v0 v1 = some x) : gMet l yX12_has cX12_has 2 (some .boolean) ({ frames := 0, cells := 0, slots := 0, locals := 0 } : Room) X σ [.int v0, .int v1] (gQi X σ x) := by
  unfold f_X12_has at h
  refine gMet_of (lv := [(0, .int v0), (1, .int v1)]) (by decide) rfl (Nat.le_of_ble_eq_true rfl) rfl (fun p e s m below meth c H ls Γ hI hl => ?_)
  refine lv_iload_n Γ.1.1 Γ.1.2.1 dX12_has_0 rfl (lv_at hl 0 rfl) ?_
  refine lv_iload_n Γ.1.1 Γ.1.2.1 dX12_has_1 rfl (lv_at hl 1 rfl) ?_
  refine lv_ishr Γ.1.1 Γ.1.2.1 dX12_has_2 ?_
  refine lv_iconst (v := (1 : Int32)) Γ.1.1 Γ.1.2.1 dX12_has_3 (by decide) ?_
  refine lv_iand Γ.1.1 Γ.1.2.1 dX12_has_4 ?_
  refine lv_iconst (v := (1 : Int32)) Γ.1.1 Γ.1.2.1 dX12_has_5 (by decide) ?_
  refine lv_icmp_ne (tgt := 13) Γ.1.1 Γ.1.2.1 dX12_has_6 (by decide) (fun c_1 => ?_) (fun c_1 => ?_)
  · replace h := ite_neg c_1 h; clear c_1
    refine lv_iconst (v := (0 : Int32)) Γ.1.1 Γ.1.2.1 dX12_has_13 (by decide) ?_
    exact g_zret Γ hI dX12_has_14 rfl (Option.some.inj h)
  · replace h := ite_pos c_1 h; clear c_1
    refine lv_iconst (v := (1 : Int32)) Γ.1.1 Γ.1.2.1 dX12_has_9 (by decide) ?_
    refine lv_goto (tgt := 14) Γ.1.1 Γ.1.2.1 dX12_has_10 (by decide) ?_
    exact g_zret Γ hI dX12_has_14 rfl (Option.some.inj h)
set_option maxRecDepth 20000 in
set_option maxHeartbeats 4000000 in
theorem s_X12_bits_L4 {p : Program} {l : Launch} {e : Env} {s : State} {m : MethodId} {args : Array Value} {below : List Frame} {meth : Method} {c : Code} {X : GX} (σ : GM) (x : Int32) (Γ : gC X p m meth c cX12_bits 3 s args RX12 (some .int)) :
    ∀ (k : Nat) (v1 : Int32) (v2 : Int32) (H : Heap) (locs : List Loc) (ls : Array Slot), gI X σ s H locs → lv_has ls 3 [(1, .int v1), (2, .int v2)] → f_X12_bits_L4 σ k v1 v2 = some x →
    W p l e ({ frames := 0, cells := 0, slots := 0, locals := 0 } : Room) s m args below meth c H locs 0 0 (MQ below (gQi X σ x) args s 0 0 (gA X)) (F0 m 4 ls []) := by
  intro k
  induction k with
  | zero =>
    intro v1 v2 H locs ls hI hl h
    exact absurd h (by simp [f_X12_bits_L4])
  | succ k ih =>
    intro v1 v2 H locs ls hI hl h
    unfold f_X12_bits_L4 at h
    refine lv_iload_n Γ.1.1 Γ.1.2.1 dX12_bits_4 rfl (lv_at hl 1 rfl) ?_
    refine lv_if_eq (tgt := 20) Γ.1.1 Γ.1.2.1 dX12_bits_5 (by decide) (fun c_1 => ?_) (fun c_1 => ?_)
    · replace h := ite_pos c_1 h; clear c_1
      refine lv_iload_n Γ.1.1 Γ.1.2.1 dX12_bits_20 rfl (lv_at hl 0 rfl) ?_
      exact g_iret Γ hI dX12_bits_21 rfl (Option.some.inj h)
    · replace h := ite_neg c_1 h; clear c_1
      obtain ⟨v1_2, e_v1_2, h⟩ := nm_some h
      refine lv_iinc (v := v1_2) (lv' := [(1, .int v1_2), (2, .int v2)]) Γ.1.1 Γ.1.2.1 dX12_bits_8 hl (k := 0) rfl (by rw [e_v1_2]; rfl) (by decide) rfl (fun ls hl => ?_)
      clear e_v1_2
      refine lv_iload_n Γ.1.1 Γ.1.2.1 dX12_bits_11 rfl (lv_at hl 1 rfl) ?_
      refine lv_iload_n Γ.1.1 Γ.1.2.1 dX12_bits_12 rfl (lv_at hl 1 rfl) ?_
      refine lv_iconst (v := (1 : Int32)) Γ.1.1 Γ.1.2.1 dX12_bits_13 (by decide) ?_
      refine lv_isub Γ.1.1 Γ.1.2.1 dX12_bits_14 ?_
      refine lv_iand Γ.1.1 Γ.1.2.1 dX12_bits_15 ?_
      refine lv_topi (fun v2_3 e_v2_3 => ?_)
      replace h := nm_at e_v2_3 h; clear e_v2_3
      refine lv_istore_n (lv' := [(2, .int v2_3), (1, .int v1_2)]) Γ.1.1 Γ.1.2.1 dX12_bits_16 rfl hl (by decide) rfl (fun ls hl => ?_)
      refine lv_goto (tgt := 4) Γ.1.1 Γ.1.2.1 dX12_bits_17 (by decide) ?_
      exact ih v1_2 v2_3 _ _ _ hI (lv_sub hl [1, 0] rfl) h
set_option maxRecDepth 20000 in
set_option maxHeartbeats 4000000 in
theorem S_X12_bits (l : Launch) (X : GX) (σ : GM) (v0 : Int32) (x : Int32) (h : f_X12_bits σ v0 = some x) : gMet l yX12_bits cX12_bits 3 (some .int) ({ frames := 0, cells := 0, slots := 0, locals := 0 } : Room) X σ [.int v0] (gQi X σ x) := by
  unfold f_X12_bits at h
  refine gMet_of (lv := [(0, .int v0)]) (by decide) rfl (Nat.le_of_ble_eq_true rfl) rfl (fun p e s m below meth c H ls Γ hI hl => ?_)
  refine lv_iconst (v := (0 : Int32)) Γ.1.1 Γ.1.2.1 dX12_bits_0 (by decide) ?_
  refine lv_istore_n (lv' := [(1, .int (0 : Int32)), (0, .int v0)]) Γ.1.1 Γ.1.2.1 dX12_bits_1 rfl hl (by decide) rfl (fun ls hl => ?_)
  refine lv_iload_n Γ.1.1 Γ.1.2.1 dX12_bits_2 rfl (lv_at hl 1 rfl) ?_
  refine lv_istore_n (lv' := [(2, .int v0), (1, .int (0 : Int32)), (0, .int v0)]) Γ.1.1 Γ.1.2.1 dX12_bits_3 rfl hl (by decide) rfl (fun ls hl => ?_)
  exact s_X12_bits_L4 σ x Γ _ (0 : Int32) v0 _ _ _ hI (lv_sub hl [1, 0] rfl) h
set_option maxRecDepth 20000 in
set_option maxHeartbeats 4000000 in
theorem s_X12_least_L2 {p : Program} {l : Launch} {e : Env} {s : State} {m : MethodId} {args : Array Value} {below : List Frame} {meth : Method} {c : Code} {X : GX} (σ : GM) (x : Int32) (Γ : gC X p m meth c cX12_least 2 s args RX12 (some .int)) (v0 : Int32) :
    ∀ (k : Nat) (v1 : Int32) (H : Heap) (locs : List Loc) (ls : Array Slot), gI X σ s H locs → lv_has ls 2 [(0, .int v0), (1, .int v1)] → f_X12_least_L2 σ v0 k v1 = some x →
    W p l e ({ frames := 1, cells := 0, slots := 0, locals := 21 } : Room) s m args below meth c H locs 0 0 (MQ below (gQi X σ x) args s 0 0 (gA X)) (F0 m 2 ls []) := by
  intro k
  induction k with
  | zero =>
    intro v1 H locs ls hI hl h
    exact absurd h (by simp [f_X12_least_L2])
  | succ k ih =>
    intro v1 H locs ls hI hl h
    unfold f_X12_least_L2 at h
    refine lv_iload_n Γ.1.1 Γ.1.2.1 dX12_least_2 rfl (lv_at hl 0 rfl) ?_
    refine lv_iload_n Γ.1.1 Γ.1.2.1 dX12_least_3 rfl (lv_at hl 1 rfl) ?_
    obtain ⟨r_1, hr_1, h⟩ := ob_some h
    refine g_ci Γ hI (g_runS (As := [.int v0, .int v1]) Γ hI (S_X12_has l X σ v0 v1 r_1 hr_1) mf_X12_has gw_212 rfl rfl ⟨Nat.le_of_ble_eq_true rfl, Nat.le_of_ble_eq_true rfl⟩ rfl hl.1 rfl (Nat.le_of_ble_eq_true rfl) dX12_least_4 ⟨Nat.zero_le _, Nat.zero_le _⟩) (fun H locs hI => ?_)
    clear hr_1
    refine lv_if_ne (tgt := 16) Γ.1.1 Γ.1.2.1 dX12_least_7 (by decide) (fun c_3 => ?_) (fun c_3 => ?_)
    · replace h := ite_neg c_3 h; clear c_3
      refine lv_iload_n Γ.1.1 Γ.1.2.1 dX12_least_16 rfl (lv_at hl 1 rfl) ?_
      exact g_iret Γ hI dX12_least_17 rfl (Option.some.inj h)
    · replace h := ite_pos c_3 h; clear c_3
      obtain ⟨v1_4, e_v1_4, h⟩ := nm_some h
      refine lv_iinc (v := v1_4) (lv' := [(1, .int v1_4), (0, .int v0)]) Γ.1.1 Γ.1.2.1 dX12_least_10 hl (k := 1) rfl (by rw [e_v1_4]; rfl) (by decide) rfl (fun ls hl => ?_)
      clear e_v1_4
      refine lv_goto (tgt := 2) Γ.1.1 Γ.1.2.1 dX12_least_13 (by decide) ?_
      exact ih v1_4 _ _ _ hI (lv_sub hl [1, 0] rfl) h
set_option maxRecDepth 20000 in
set_option maxHeartbeats 4000000 in
theorem S_X12_least (l : Launch) (X : GX) (σ : GM) (v0 : Int32) (x : Int32) (h : f_X12_least σ v0 = some x) : gMet l yX12_least cX12_least 2 (some .int) ({ frames := 1, cells := 0, slots := 0, locals := 21 } : Room) X σ [.int v0] (gQi X σ x) := by
  unfold f_X12_least at h
  refine gMet_of (lv := [(0, .int v0)]) (by decide) rfl (Nat.le_of_ble_eq_true rfl) rfl (fun p e s m below meth c H ls Γ hI hl => ?_)
  refine lv_iconst (v := (0 : Int32)) Γ.1.1 Γ.1.2.1 dX12_least_0 (by decide) ?_
  refine lv_istore_n (lv' := [(1, .int (0 : Int32)), (0, .int v0)]) Γ.1.1 Γ.1.2.1 dX12_least_1 rfl hl (by decide) rfl (fun ls hl => ?_)
  exact s_X12_least_L2 σ x Γ v0 _ (0 : Int32) _ _ _ hI (lv_sub hl [1, 0] rfl) h
set_option maxRecDepth 20000 in
set_option maxHeartbeats 4000000 in
theorem s_X12_lay_L3 {p : Program} {l : Launch} {e : Env} {s : State} {m : MethodId} {args : Array Value} {below : List Frame} {meth : Method} {c : Code} {X : GX} (σr : GM) (Γ : gC X p m meth c cX12_lay 3 s args RX12 none) (v1 : Int32) :
    ∀ (k : Nat) (σ : GM) (v2 : Int32) (H : Heap) (locs : List Loc) (ls : Array Slot), gI X σ s H locs → lv_has ls 3 [(0, .ref (X.2.1 + 60)), (1, .int v1), (2, .int v2)] → f_X12_lay_L3 v1 k σ v2 = some σr →
    W p l e ({ frames := 0, cells := 0, slots := 0, locals := 0 } : Room) s m args below meth c H locs 0 0 (MQ below (gQv X σr) args s 0 0 (gA X)) (F0 m 3 ls []) := by
  intro k
  induction k with
  | zero =>
    intro σ v2 H locs ls hI hl h
    exact absurd h (by simp [f_X12_lay_L3])
  | succ k ih =>
    intro σ v2 H locs ls hI hl h
    unfold f_X12_lay_L3 at h
    refine lv_iload_n Γ.1.1 Γ.1.2.1 dX12_lay_3 rfl (lv_at hl 2 rfl) ?_
    refine lv_if_lt (tgt := 39) Γ.1.1 Γ.1.2.1 dX12_lay_4 (by decide) (fun c_1 => ?_) (fun c_1 => ?_)
    · replace h := ite_pos c_1 h; clear c_1
      exact g_vret Γ hI dX12_lay_39 (Option.some.inj h)
    · replace h := ite_neg c_1 h; clear c_1
      refine lv_aload_n Γ.1.1 Γ.1.2.1 dX12_lay_7 rfl (lv_at hl 0 rfl) ?_
      refine get_X12_tape Γ hI gw_213 dX12_lay_8 ?_
      refine lv_aload_n Γ.1.1 Γ.1.2.1 dX12_lay_11 rfl (lv_at hl 0 rfl) ?_
      refine get_X12_taped Γ hI gw_214 dX12_lay_12 ?_
      refine lv_iload_n Γ.1.1 Γ.1.2.1 dX12_lay_15 rfl (lv_at hl 1 rfl) ?_
      refine lv_iload_n Γ.1.1 Γ.1.2.1 dX12_lay_16 rfl (lv_at hl 2 rfl) ?_
      refine lv_iushr (v := (jushr v1 v2)) Γ.1.1 Γ.1.2.1 dX12_lay_17 rfl ?_
      refine lv_sipush (v := (255 : Int32)) Γ.1.1 Γ.1.2.1 dX12_lay_18 (by decide) ?_
      refine lv_iand Γ.1.1 Γ.1.2.1 dX12_lay_21 ?_
      obtain ⟨hb_2, h⟩ := bnd_some h
      refine g_iast Γ hI sh_61 hb_2 dX12_lay_22 (fun H locs hI => ?_)
      obtain ⟨σ_3, e_m_3, h⟩ := nm_some h
      rw [← e_m_3] at hI; clear e_m_3
      refine lv_aload_n Γ.1.1 Γ.1.2.1 dX12_lay_23 rfl (lv_at hl 0 rfl) ?_
      refine lv_dup Γ.1.1 Γ.1.2.1 dX12_lay_24 rfl ?_
      refine get_X12_taped Γ hI gw_214 dX12_lay_25 ?_
      refine lv_iconst (v := (1 : Int32)) Γ.1.1 Γ.1.2.1 dX12_lay_28 (by decide) ?_
      refine lv_iadd Γ.1.1 Γ.1.2.1 dX12_lay_29 ?_
      refine put_X12_taped Γ hI gw_214 dX12_lay_30 (fun H locs hI => ?_)
      obtain ⟨σ_4, e_m_4, h⟩ := nm_some h
      rw [← e_m_4] at hI; clear e_m_4
      obtain ⟨v2_5, e_v2_5, h⟩ := nm_some h
      refine lv_iinc (v := v2_5) (lv' := [(2, .int v2_5), (0, .ref (X.2.1 + 60)), (1, .int v1)]) Γ.1.1 Γ.1.2.1 dX12_lay_33 hl (k := 2) rfl (by rw [e_v2_5]; rfl) (by decide) rfl (fun ls hl => ?_)
      clear e_v2_5
      refine lv_goto (tgt := 3) Γ.1.1 Γ.1.2.1 dX12_lay_36 (by decide) ?_
      exact ih σ_4 v2_5 _ _ _ hI (lv_sub hl [1, 2, 0] rfl) h
set_option maxRecDepth 20000 in
set_option maxHeartbeats 4000000 in
theorem S_X12_lay (l : Launch) (X : GX) (σ : GM) (v1 : Int32) (σr : GM) (h : f_X12_lay σ v1 = some σr) : gMet l yX12_lay cX12_lay 3 none ({ frames := 0, cells := 0, slots := 0, locals := 0 } : Room) X σ [.ref (X.2.1 + 60), .int v1] (gQv X σr) := by
  unfold f_X12_lay at h
  refine gMet_of (lv := [(0, .ref (X.2.1 + 60)), (1, .int v1)]) (by decide) rfl (Nat.le_of_ble_eq_true rfl) rfl (fun p e s m below meth c H ls Γ hI hl => ?_)
  refine lv_bipush (v := (24 : Int32)) Γ.1.1 Γ.1.2.1 dX12_lay_0 (by decide) ?_
  refine lv_istore_n (lv' := [(2, .int (24 : Int32)), (0, .ref (X.2.1 + 60)), (1, .int v1)]) Γ.1.1 Γ.1.2.1 dX12_lay_2 rfl hl (by decide) rfl (fun ls hl => ?_)
  exact s_X12_lay_L3 σr Γ v1 _ σ (24 : Int32) _ _ _ hI (lv_sub hl [1, 2, 0] rfl) h
set_option maxRecDepth 20000 in
set_option maxHeartbeats 4000000 in
theorem S_X12_feed (l : Launch) (X : GX) (σ : GM) (v1 : Int32) (v2 : Int32) (v3 : Int32) (v4 : Int32) (v5 : Int32) (σr : GM) (x : Int32) (h : f_X12_feed σ v1 v2 v3 v4 v5 = some (σr, x)) : gMet l yX12_feed cX12_feed 6 (some .int) ({ frames := 1, cells := 0, slots := 0, locals := 22 } : Room) X σ [.ref (X.2.1 + 60), .int v1, .int v2, .int v3, .int v4, .int v5] (gQi X σr x) := by
  unfold f_X12_feed at h
  refine gMet_of (lv := [(0, .ref (X.2.1 + 60)), (1, .int v1), (2, .int v2), (3, .int v3), (4, .int v4), (5, .int v5)]) (by decide) rfl (Nat.le_of_ble_eq_true rfl) rfl (fun p e s m below meth c H ls Γ hI hl => ?_)
  refine lv_aload_n Γ.1.1 Γ.1.2.1 dX12_feed_0 rfl (lv_at hl 0 rfl) ?_
  refine lv_iconst (v := (0 : Int32)) Γ.1.1 Γ.1.2.1 dX12_feed_1 (by decide) ?_
  refine put_X12_thrown Γ hI gw_211 dX12_feed_2 (fun H locs hI => ?_)
  obtain ⟨σ_1, e_m_1, h⟩ := nm_some h
  rw [← e_m_1] at hI; clear e_m_1
  refine lv_aload_n Γ.1.1 Γ.1.2.1 dX12_feed_5 rfl (lv_at hl 0 rfl) ?_
  refine get_X12_taped Γ hI gw_214 dX12_feed_6 ?_
  refine lv_bipush (v := (20 : Int32)) Γ.1.1 Γ.1.2.1 dX12_feed_9 (by decide) ?_
  refine lv_iadd Γ.1.1 Γ.1.2.1 dX12_feed_11 ?_
  refine lv_sipush (v := (640 : Int32)) Γ.1.1 Γ.1.2.1 dX12_feed_12 (by decide) ?_
  refine lv_icmp_le (tgt := 20) Γ.1.1 Γ.1.2.1 dX12_feed_15 (by decide) (fun c_2 => ?_) (fun c_2 => ?_)
  · replace h := ite_pos c_2 h; clear c_2
    refine lv_aload_n Γ.1.1 Γ.1.2.1 dX12_feed_20 rfl (lv_at hl 0 rfl) ?_
    refine lv_iload_n Γ.1.1 Γ.1.2.1 dX12_feed_21 rfl (lv_at hl 1 rfl) ?_
    obtain ⟨σ_4, hr_3, h⟩ := ob_some h
    refine g_cv Γ hI (g_runV (As := [.int v1]) Γ hI (S_X12_lay l X σ_1 v1 σ_4 hr_3) mf_X12_lay (recv_X12 Γ hI) gw_215 rfl rfl ⟨Nat.le_of_ble_eq_true rfl, Nat.le_of_ble_eq_true rfl⟩ rfl hl.1 rfl (Nat.le_of_ble_eq_true rfl) dX12_feed_22 ⟨Nat.zero_le _, Nat.zero_le _⟩) (fun H locs hI => ?_)
    clear hr_3
    refine lv_aload_n Γ.1.1 Γ.1.2.1 dX12_feed_25 rfl (lv_at hl 0 rfl) ?_
    refine lv_iload_n Γ.1.1 Γ.1.2.1 dX12_feed_26 rfl (lv_at hl 2 rfl) ?_
    obtain ⟨σ_6, hr_5, h⟩ := ob_some h
    refine g_cv Γ hI (g_runV (As := [.int v2]) Γ hI (S_X12_lay l X σ_4 v2 σ_6 hr_5) mf_X12_lay (recv_X12 Γ hI) gw_215 rfl rfl ⟨Nat.le_of_ble_eq_true rfl, Nat.le_of_ble_eq_true rfl⟩ rfl hl.1 rfl (Nat.le_of_ble_eq_true rfl) dX12_feed_27 ⟨Nat.zero_le _, Nat.zero_le _⟩) (fun H locs hI => ?_)
    clear hr_5
    refine lv_aload_n Γ.1.1 Γ.1.2.1 dX12_feed_30 rfl (lv_at hl 0 rfl) ?_
    refine lv_iload_n Γ.1.1 Γ.1.2.1 dX12_feed_31 rfl (lv_at hl 3 rfl) ?_
    obtain ⟨σ_8, hr_7, h⟩ := ob_some h
    refine g_cv Γ hI (g_runV (As := [.int v3]) Γ hI (S_X12_lay l X σ_6 v3 σ_8 hr_7) mf_X12_lay (recv_X12 Γ hI) gw_215 rfl rfl ⟨Nat.le_of_ble_eq_true rfl, Nat.le_of_ble_eq_true rfl⟩ rfl hl.1 rfl (Nat.le_of_ble_eq_true rfl) dX12_feed_32 ⟨Nat.zero_le _, Nat.zero_le _⟩) (fun H locs hI => ?_)
    clear hr_7
    refine lv_aload_n Γ.1.1 Γ.1.2.1 dX12_feed_35 rfl (lv_at hl 0 rfl) ?_
    refine lv_iload Γ.1.1 Γ.1.2.1 dX12_feed_36 (lv_at hl 4 rfl) ?_
    obtain ⟨σ_10, hr_9, h⟩ := ob_some h
    refine g_cv Γ hI (g_runV (As := [.int v4]) Γ hI (S_X12_lay l X σ_8 v4 σ_10 hr_9) mf_X12_lay (recv_X12 Γ hI) gw_215 rfl rfl ⟨Nat.le_of_ble_eq_true rfl, Nat.le_of_ble_eq_true rfl⟩ rfl hl.1 rfl (Nat.le_of_ble_eq_true rfl) dX12_feed_38 ⟨Nat.zero_le _, Nat.zero_le _⟩) (fun H locs hI => ?_)
    clear hr_9
    refine lv_aload_n Γ.1.1 Γ.1.2.1 dX12_feed_41 rfl (lv_at hl 0 rfl) ?_
    refine lv_iload Γ.1.1 Γ.1.2.1 dX12_feed_42 (lv_at hl 5 rfl) ?_
    obtain ⟨σ_12, hr_11, h⟩ := ob_some h
    refine g_cv Γ hI (g_runV (As := [.int v5]) Γ hI (S_X12_lay l X σ_10 v5 σ_12 hr_11) mf_X12_lay (recv_X12 Γ hI) gw_215 rfl rfl ⟨Nat.le_of_ble_eq_true rfl, Nat.le_of_ble_eq_true rfl⟩ rfl hl.1 rfl (Nat.le_of_ble_eq_true rfl) dX12_feed_44 ⟨Nat.zero_le _, Nat.zero_le _⟩) (fun H locs hI => ?_)
    clear hr_11
    refine lv_aload_n Γ.1.1 Γ.1.2.1 dX12_feed_47 rfl (lv_at hl 0 rfl) ?_
    refine get_X12_taped Γ hI gw_214 dX12_feed_48 ?_
    exact g_iret Γ hI dX12_feed_51 (Prod.mk.inj (Option.some.inj h)).1 (Prod.mk.inj (Option.some.inj h)).2
  · replace h := ite_neg c_2 h; clear c_2
    refine lv_iconst (v := (-1 : Int32)) Γ.1.1 Γ.1.2.1 dX12_feed_18 (by decide) ?_
    exact g_iret Γ hI dX12_feed_19 (Prod.mk.inj (Option.some.inj h)).1 (Prod.mk.inj (Option.some.inj h)).2
set_option maxRecDepth 20000 in
set_option maxHeartbeats 4000000 in
theorem S_X12_end (l : Launch) (X : GX) (σ : GM) (v1 : Int32) (σr : GM) (x : Int32) (h : f_X12_end σ v1 = some (σr, x)) : gMet l yX12_end cX12_end 2 (some .boolean) ({ frames := 0, cells := 0, slots := 0, locals := 0 } : Room) X σ [.ref (X.2.1 + 60), .int v1] (gQi X σr x) := by
  unfold f_X12_end at h
  refine gMet_of (lv := [(0, .ref (X.2.1 + 60)), (1, .int v1)]) (by decide) rfl (Nat.le_of_ble_eq_true rfl) rfl (fun p e s m below meth c H ls Γ hI hl => ?_)
  refine lv_aload_n Γ.1.1 Γ.1.2.1 dX12_end_0 rfl (lv_at hl 0 rfl) ?_
  refine lv_iconst (v := (0 : Int32)) Γ.1.1 Γ.1.2.1 dX12_end_1 (by decide) ?_
  refine put_X12_thrown Γ hI gw_211 dX12_end_2 (fun H locs hI => ?_)
  obtain ⟨σ_1, e_m_1, h⟩ := nm_some h
  rw [← e_m_1] at hI; clear e_m_1
  refine lv_iload_n Γ.1.1 Γ.1.2.1 dX12_end_5 rfl (lv_at hl 1 rfl) ?_
  refine lv_if_lt (tgt := 17) Γ.1.1 Γ.1.2.1 dX12_end_6 (by decide) (fun c_2 => ?_) (fun c_2 => ?_)
  · replace h := ite_pos c_2 h; clear c_2
    refine lv_iconst (v := (0 : Int32)) Γ.1.1 Γ.1.2.1 dX12_end_17 (by decide) ?_
    exact g_zret Γ hI dX12_end_18 (Prod.mk.inj (Option.some.inj h)).1 (Prod.mk.inj (Option.some.inj h)).2
  · replace h := ite_neg c_2 h; clear c_2
    refine lv_iload_n Γ.1.1 Γ.1.2.1 dX12_end_9 rfl (lv_at hl 1 rfl) ?_
    refine lv_aload_n Γ.1.1 Γ.1.2.1 dX12_end_10 rfl (lv_at hl 0 rfl) ?_
    refine get_X12_taped Γ hI gw_214 dX12_end_11 ?_
    refine lv_icmp_le (tgt := 19) Γ.1.1 Γ.1.2.1 dX12_end_14 (by decide) (fun c_3 => ?_) (fun c_3 => ?_)
    · replace h := ite_pos c_3 h; clear c_3
      refine lv_aload_n Γ.1.1 Γ.1.2.1 dX12_end_19 rfl (lv_at hl 0 rfl) ?_
      refine lv_iload_n Γ.1.1 Γ.1.2.1 dX12_end_20 rfl (lv_at hl 1 rfl) ?_
      refine put_X12_taped Γ hI gw_214 dX12_end_21 (fun H locs hI => ?_)
      obtain ⟨σ_4, e_m_4, h⟩ := nm_some h
      rw [← e_m_4] at hI; clear e_m_4
      refine lv_iconst (v := (1 : Int32)) Γ.1.1 Γ.1.2.1 dX12_end_24 (by decide) ?_
      exact g_zret Γ hI dX12_end_25 (Prod.mk.inj (Option.some.inj h)).1 (Prod.mk.inj (Option.some.inj h)).2
    · replace h := ite_neg c_3 h; clear c_3
      refine lv_iconst (v := (0 : Int32)) Γ.1.1 Γ.1.2.1 dX12_end_17 (by decide) ?_
      exact g_zret Γ hI dX12_end_18 (Prod.mk.inj (Option.some.inj h)).1 (Prod.mk.inj (Option.some.inj h)).2
set_option maxRecDepth 20000 in
set_option maxHeartbeats 4000000 in
theorem S_X12_tapeAt (l : Launch) (X : GX) (σ : GM) (v1 : Int32) (x : Int32) (h : f_X12_tapeAt σ v1 = some x) : gMet l yX12_tapeAt cX12_tapeAt 2 (some .int) ({ frames := 0, cells := 0, slots := 0, locals := 0 } : Room) X σ [.ref (X.2.1 + 60), .int v1] (gQi X σ x) := by
  unfold f_X12_tapeAt at h
  refine gMet_of (lv := [(0, .ref (X.2.1 + 60)), (1, .int v1)]) (by decide) rfl (Nat.le_of_ble_eq_true rfl) rfl (fun p e s m below meth c H ls Γ hI hl => ?_)
  refine lv_iload_n Γ.1.1 Γ.1.2.1 dX12_tapeAt_0 rfl (lv_at hl 1 rfl) ?_
  refine lv_aload_n Γ.1.1 Γ.1.2.1 dX12_tapeAt_1 rfl (lv_at hl 0 rfl) ?_
  refine get_X12_size Γ hI gw_216 dX12_tapeAt_2 ?_
  refine lv_icmp_ge (tgt := 17) Γ.1.1 Γ.1.2.1 dX12_tapeAt_5 (by decide) (fun c_1 => ?_) (fun c_1 => ?_)
  · replace h := ite_pos c_1 h; clear c_1
    refine lv_iconst (v := (0 : Int32)) Γ.1.1 Γ.1.2.1 dX12_tapeAt_17 (by decide) ?_
    exact g_iret Γ hI dX12_tapeAt_18 rfl (Option.some.inj h)
  · replace h := ite_neg c_1 h; clear c_1
    refine lv_aload_n Γ.1.1 Γ.1.2.1 dX12_tapeAt_8 rfl (lv_at hl 0 rfl) ?_
    refine get_X12_tape Γ hI gw_213 dX12_tapeAt_9 ?_
    refine lv_iload_n Γ.1.1 Γ.1.2.1 dX12_tapeAt_12 rfl (lv_at hl 1 rfl) ?_
    obtain ⟨hb_2, h⟩ := bnd_some h
    refine g_iald Γ hI sh_61 hb_2 dX12_tapeAt_13 ?_
    refine lv_goto (tgt := 18) Γ.1.1 Γ.1.2.1 dX12_tapeAt_14 (by decide) ?_
    exact g_iret Γ hI dX12_tapeAt_18 rfl (Option.some.inj h)
set_option maxRecDepth 20000 in
set_option maxHeartbeats 4000000 in
theorem S_X12_isDigit (l : Launch) (X : GX) (σ : GM) (v0 : Int32) (x : Int32) (h : f_X12_isDigit σ v0 = some x) : gMet l yX12_isDigit cX12_isDigit 1 (some .boolean) ({ frames := 0, cells := 0, slots := 0, locals := 0 } : Room) X σ [.int v0] (gQi X σ x) := by
  unfold f_X12_isDigit at h
  refine gMet_of (lv := [(0, .int v0)]) (by decide) rfl (Nat.le_of_ble_eq_true rfl) rfl (fun p e s m below meth c H ls Γ hI hl => ?_)
  refine lv_iload_n Γ.1.1 Γ.1.2.1 dX12_isDigit_0 rfl (lv_at hl 0 rfl) ?_
  refine lv_bipush (v := (48 : Int32)) Γ.1.1 Γ.1.2.1 dX12_isDigit_1 (by decide) ?_
  refine lv_icmp_lt (tgt := 16) Γ.1.1 Γ.1.2.1 dX12_isDigit_3 (by decide) (fun c_1 => ?_) (fun c_1 => ?_)
  · replace h := ite_pos c_1 h; clear c_1
    refine lv_iconst (v := (0 : Int32)) Γ.1.1 Γ.1.2.1 dX12_isDigit_16 (by decide) ?_
    exact g_zret Γ hI dX12_isDigit_17 rfl (Option.some.inj h)
  · replace h := ite_neg c_1 h; clear c_1
    refine lv_iload_n Γ.1.1 Γ.1.2.1 dX12_isDigit_6 rfl (lv_at hl 0 rfl) ?_
    refine lv_bipush (v := (57 : Int32)) Γ.1.1 Γ.1.2.1 dX12_isDigit_7 (by decide) ?_
    refine lv_icmp_gt (tgt := 16) Γ.1.1 Γ.1.2.1 dX12_isDigit_9 (by decide) (fun c_2 => ?_) (fun c_2 => ?_)
    · replace h := ite_pos c_2 h; clear c_2
      refine lv_iconst (v := (0 : Int32)) Γ.1.1 Γ.1.2.1 dX12_isDigit_16 (by decide) ?_
      exact g_zret Γ hI dX12_isDigit_17 rfl (Option.some.inj h)
    · replace h := ite_neg c_2 h; clear c_2
      refine lv_iconst (v := (1 : Int32)) Γ.1.1 Γ.1.2.1 dX12_isDigit_12 (by decide) ?_
      refine lv_goto (tgt := 17) Γ.1.1 Γ.1.2.1 dX12_isDigit_13 (by decide) ?_
      exact g_zret Γ hI dX12_isDigit_17 rfl (Option.some.inj h)
set_option maxRecDepth 20000 in
set_option maxHeartbeats 4000000 in
theorem S_X12_isLetter (l : Launch) (X : GX) (σ : GM) (v0 : Int32) (x : Int32) (h : f_X12_isLetter σ v0 = some x) : gMet l yX12_isLetter cX12_isLetter 1 (some .boolean) ({ frames := 0, cells := 0, slots := 0, locals := 0 } : Room) X σ [.int v0] (gQi X σ x) := by
  unfold f_X12_isLetter at h
  refine gMet_of (lv := [(0, .int v0)]) (by decide) rfl (Nat.le_of_ble_eq_true rfl) rfl (fun p e s m below meth c H ls Γ hI hl => ?_)
  refine lv_iload_n Γ.1.1 Γ.1.2.1 dX12_isLetter_0 rfl (lv_at hl 0 rfl) ?_
  refine lv_bipush (v := (97 : Int32)) Γ.1.1 Γ.1.2.1 dX12_isLetter_1 (by decide) ?_
  refine lv_icmp_lt (tgt := 16) Γ.1.1 Γ.1.2.1 dX12_isLetter_3 (by decide) (fun c_1 => ?_) (fun c_1 => ?_)
  · replace h := ite_pos c_1 h; clear c_1
    refine lv_iconst (v := (0 : Int32)) Γ.1.1 Γ.1.2.1 dX12_isLetter_16 (by decide) ?_
    exact g_zret Γ hI dX12_isLetter_17 rfl (Option.some.inj h)
  · replace h := ite_neg c_1 h; clear c_1
    refine lv_iload_n Γ.1.1 Γ.1.2.1 dX12_isLetter_6 rfl (lv_at hl 0 rfl) ?_
    refine lv_bipush (v := (122 : Int32)) Γ.1.1 Γ.1.2.1 dX12_isLetter_7 (by decide) ?_
    refine lv_icmp_gt (tgt := 16) Γ.1.1 Γ.1.2.1 dX12_isLetter_9 (by decide) (fun c_2 => ?_) (fun c_2 => ?_)
    · replace h := ite_pos c_2 h; clear c_2
      refine lv_iconst (v := (0 : Int32)) Γ.1.1 Γ.1.2.1 dX12_isLetter_16 (by decide) ?_
      exact g_zret Γ hI dX12_isLetter_17 rfl (Option.some.inj h)
    · replace h := ite_neg c_2 h; clear c_2
      refine lv_iconst (v := (1 : Int32)) Γ.1.1 Γ.1.2.1 dX12_isLetter_12 (by decide) ?_
      refine lv_goto (tgt := 17) Γ.1.1 Γ.1.2.1 dX12_isLetter_13 (by decide) ?_
      exact g_zret Γ hI dX12_isLetter_17 rfl (Option.some.inj h)
set_option maxRecDepth 20000 in
set_option maxHeartbeats 4000000 in
theorem s_X12_next_L299 {p : Program} {l : Launch} {e : Env} {s : State} {m : MethodId} {args : Array Value} {below : List Frame} {meth : Method} {c : Code} {X : GX} (σr : GM) (Γ : gC X p m meth c cX12_next 5 s args RX12 none) (v2 : Int32) (k177 : GM → Int32 → Option GM) (hk177 : ∀ (σ : GM) (v3 : Int32) (H : Heap) (locs : List Loc) (ls : Array Slot), gI X σ s H locs → lv_has ls 5 [(0, .ref (X.2.1 + 60)), (2, .int v2), (3, .int v3)] → k177 σ v3 = some σr → W p l e ({ frames := 1, cells := 0, slots := 0, locals := 21 } : Room) s m args below meth c H locs 0 0 (MQ below (gQv X σr) args s 0 0 (gA X)) (F0 m 177 ls [])) :
    ∀ (σ : GM) (v3 : Int32) (H : Heap) (locs : List Loc) (ls : Array Slot), gI X σ s H locs → lv_has ls 5 [(0, .ref (X.2.1 + 60)), (2, .int v2), (3, .int v3)] → f_X12_next_L299 k177 v2 σ v3 = some σr →
    W p l e ({ frames := 1, cells := 0, slots := 0, locals := 21 } : Room) s m args below meth c H locs 0 0 (MQ below (gQv X σr) args s 0 0 (gA X)) (F0 m 299 ls []) := by
  intro σ v3 H locs ls hI hl h
  unfold f_X12_next_L299 at h
  refine lv_aload_n Γ.1.1 Γ.1.2.1 dX12_next_299 rfl (lv_at hl 0 rfl) ?_
  refine lv_dup Γ.1.1 Γ.1.2.1 dX12_next_300 rfl ?_
  refine get_X12_to Γ hI gw_217 dX12_next_301 ?_
  refine lv_iconst (v := (1 : Int32)) Γ.1.1 Γ.1.2.1 dX12_next_304 (by decide) ?_
  refine lv_iadd Γ.1.1 Γ.1.2.1 dX12_next_305 ?_
  refine put_X12_to Γ hI gw_217 dX12_next_306 (fun H locs hI => ?_)
  obtain ⟨σ_26, e_m_26, h⟩ := nm_some h
  rw [← e_m_26] at hI; clear e_m_26
  refine lv_goto (tgt := 177) Γ.1.1 Γ.1.2.1 dX12_next_309 (by decide) ?_
  exact hk177 σ_26 v3 _ _ _ hI hl h
set_option maxRecDepth 20000 in
set_option maxHeartbeats 4000000 in
theorem s_X12_next_L269 {p : Program} {l : Launch} {e : Env} {s : State} {m : MethodId} {args : Array Value} {below : List Frame} {meth : Method} {c : Code} {X : GX} (σr : GM) (Γ : gC X p m meth c cX12_next 5 s args RX12 none) (v2 : Int32) (k177 : GM → Int32 → Option GM) (hk177 : ∀ (σ : GM) (v3 : Int32) (H : Heap) (locs : List Loc) (ls : Array Slot), gI X σ s H locs → lv_has ls 5 [(0, .ref (X.2.1 + 60)), (2, .int v2), (3, .int v3)] → k177 σ v3 = some σr → W p l e ({ frames := 1, cells := 0, slots := 0, locals := 21 } : Room) s m args below meth c H locs 0 0 (MQ below (gQv X σr) args s 0 0 (gA X)) (F0 m 177 ls [])) :
    ∀ (σ : GM) (v3 : Int32) (v4 : Int32) (H : Heap) (locs : List Loc) (ls : Array Slot), gI X σ s H locs → lv_has ls 5 [(0, .ref (X.2.1 + 60)), (2, .int v2), (3, .int v3), (4, .int v4)] → f_X12_next_L269 k177 v2 σ v3 v4 = some σr →
    W p l e ({ frames := 1, cells := 0, slots := 0, locals := 21 } : Room) s m args below meth c H locs 0 0 (MQ below (gQv X σr) args s 0 0 (gA X)) (F0 m 269 ls []) := by
  intro σ v3 v4 H locs ls hI hl h
  unfold f_X12_next_L269 at h
  refine lv_aload_n Γ.1.1 Γ.1.2.1 dX12_next_269 rfl (lv_at hl 0 rfl) ?_
  refine get_X12_to Γ hI gw_217 dX12_next_270 ?_
  refine lv_aload_n Γ.1.1 Γ.1.2.1 dX12_next_273 rfl (lv_at hl 0 rfl) ?_
  refine get_X12_from Γ hI gw_218 dX12_next_274 ?_
  refine lv_isub Γ.1.1 Γ.1.2.1 dX12_next_277 ?_
  refine lv_iconst (v := (2 : Int32)) Γ.1.1 Γ.1.2.1 dX12_next_278 (by decide) ?_
  refine lv_icmp_ge (tgt := 299) Γ.1.1 Γ.1.2.1 dX12_next_279 (by decide) (fun c_25 => ?_) (fun c_25 => ?_)
  · replace h := ite_pos c_25 h; clear c_25
    exact s_X12_next_L299 σr Γ v2 _ hk177 σ v3 _ _ _ hI (lv_sub hl [0, 1, 2] rfl) h
  · replace h := ite_neg c_25 h; clear c_25
    refine lv_aload_n Γ.1.1 Γ.1.2.1 dX12_next_282 rfl (lv_at hl 0 rfl) ?_
    refine lv_bipush (v := (10 : Int32)) Γ.1.1 Γ.1.2.1 dX12_next_283 (by decide) ?_
    refine lv_aload_n Γ.1.1 Γ.1.2.1 dX12_next_285 rfl (lv_at hl 0 rfl) ?_
    refine get_X12_number Γ hI gw_221 dX12_next_286 ?_
    refine lv_imul Γ.1.1 Γ.1.2.1 dX12_next_289 ?_
    refine lv_iload Γ.1.1 Γ.1.2.1 dX12_next_290 (lv_at hl 3 rfl) ?_
    refine lv_iadd Γ.1.1 Γ.1.2.1 dX12_next_292 ?_
    refine lv_bipush (v := (48 : Int32)) Γ.1.1 Γ.1.2.1 dX12_next_293 (by decide) ?_
    refine lv_isub Γ.1.1 Γ.1.2.1 dX12_next_295 ?_
    refine put_X12_number Γ hI gw_221 dX12_next_296 (fun H locs hI => ?_)
    obtain ⟨σ_27, e_m_27, h⟩ := nm_some h
    rw [← e_m_27] at hI; clear e_m_27
    exact s_X12_next_L299 σr Γ v2 _ hk177 σ_27 v3 _ _ _ hI (lv_sub hl [0, 1, 2] rfl) h
set_option maxRecDepth 20000 in
set_option maxHeartbeats 4000000 in
theorem s_X12_next_L234 {p : Program} {l : Launch} {e : Env} {s : State} {m : MethodId} {args : Array Value} {below : List Frame} {meth : Method} {c : Code} {X : GX} (σr : GM) (Γ : gC X p m meth c cX12_next 5 s args RX12 none) (v2 : Int32) (k177 : GM → Int32 → Option GM) (hk177 : ∀ (σ : GM) (v3 : Int32) (H : Heap) (locs : List Loc) (ls : Array Slot), gI X σ s H locs → lv_has ls 5 [(0, .ref (X.2.1 + 60)), (2, .int v2), (3, .int v3)] → k177 σ v3 = some σr → W p l e ({ frames := 1, cells := 0, slots := 0, locals := 21 } : Room) s m args below meth c H locs 0 0 (MQ below (gQv X σr) args s 0 0 (gA X)) (F0 m 177 ls [])) :
    ∀ (σ : GM) (v4 : Int32) (s0 : Int32) (H : Heap) (locs : List Loc) (ls : Array Slot), gI X σ s H locs → lv_has ls 5 [(0, .ref (X.2.1 + 60)), (2, .int v2), (4, .int v4)] → f_X12_next_L234 k177 v2 σ v4 s0 = some σr →
    W p l e ({ frames := 1, cells := 0, slots := 0, locals := 21 } : Room) s m args below meth c H locs 0 0 (MQ below (gQv X σr) args s 0 0 (gA X)) (F0 m 234 ls [.int s0]) := by
  intro σ v4 s0 H locs ls hI hl h
  unfold f_X12_next_L234 at h
  refine lv_istore_n (lv' := [(3, .int s0), (0, .ref (X.2.1 + 60)), (2, .int v2), (4, .int v4)]) Γ.1.1 Γ.1.2.1 dX12_next_234 rfl hl (by decide) rfl (fun ls hl => ?_)
  refine lv_aload_n Γ.1.1 Γ.1.2.1 dX12_next_235 rfl (lv_at hl 1 rfl) ?_
  refine get_X12_to Γ hI gw_217 dX12_next_236 ?_
  refine lv_aload_n Γ.1.1 Γ.1.2.1 dX12_next_239 rfl (lv_at hl 1 rfl) ?_
  refine get_X12_from Γ hI gw_218 dX12_next_240 ?_
  refine lv_isub Γ.1.1 Γ.1.2.1 dX12_next_243 ?_
  refine lv_bipush (v := (7 : Int32)) Γ.1.1 Γ.1.2.1 dX12_next_244 (by decide) ?_
  refine lv_icmp_ge (tgt := 269) Γ.1.1 Γ.1.2.1 dX12_next_246 (by decide) (fun c_24 => ?_) (fun c_24 => ?_)
  · replace h := ite_pos c_24 h; clear c_24
    exact s_X12_next_L269 σr Γ v2 _ hk177 σ s0 v4 _ _ _ hI (lv_sub hl [1, 2, 0, 3] rfl) h
  · replace h := ite_neg c_24 h; clear c_24
    refine lv_aload_n Γ.1.1 Γ.1.2.1 dX12_next_249 rfl (lv_at hl 1 rfl) ?_
    refine lv_ldc2 (v := (27 : Int64)) Γ.1.1 Γ.1.2.1 Γ.1.2.2.2.1 (Γ.1.2.2.2.2 _ gw_223) dX12_next_250 ?_
    refine lv_aload_n Γ.1.1 Γ.1.2.1 dX12_next_253 rfl (lv_at hl 1 rfl) ?_
    refine get_X12_word Γ hI gw_220 dX12_next_254 ?_
    refine lv_lmul Γ.1.1 Γ.1.2.1 dX12_next_257 ?_
    refine lv_iload Γ.1.1 Γ.1.2.1 dX12_next_258 (lv_at hl 3 rfl) ?_
    refine lv_i2l (v := (v4.toInt64)) Γ.1.1 Γ.1.2.1 dX12_next_260 rfl ?_
    refine lv_ladd Γ.1.1 Γ.1.2.1 dX12_next_261 ?_
    refine lv_ldc2 (v := (96 : Int64)) Γ.1.1 Γ.1.2.1 Γ.1.2.2.2.1 (Γ.1.2.2.2.2 _ gw_224) dX12_next_262 ?_
    refine lv_lsub Γ.1.1 Γ.1.2.1 dX12_next_265 ?_
    refine put_X12_word Γ hI gw_220 dX12_next_266 (fun H locs hI => ?_)
    obtain ⟨σ_28, e_m_28, h⟩ := nm_some h
    rw [← e_m_28] at hI; clear e_m_28
    exact s_X12_next_L269 σr Γ v2 _ hk177 σ_28 s0 v4 _ _ _ hI (lv_sub hl [1, 2, 0, 3] rfl) h
set_option maxRecDepth 20000 in
set_option maxHeartbeats 4000000 in
theorem s_X12_next_L233 {p : Program} {l : Launch} {e : Env} {s : State} {m : MethodId} {args : Array Value} {below : List Frame} {meth : Method} {c : Code} {X : GX} (σr : GM) (Γ : gC X p m meth c cX12_next 5 s args RX12 none) (v2 : Int32) (k177 : GM → Int32 → Option GM) (hk177 : ∀ (σ : GM) (v3 : Int32) (H : Heap) (locs : List Loc) (ls : Array Slot), gI X σ s H locs → lv_has ls 5 [(0, .ref (X.2.1 + 60)), (2, .int v2), (3, .int v3)] → k177 σ v3 = some σr → W p l e ({ frames := 1, cells := 0, slots := 0, locals := 21 } : Room) s m args below meth c H locs 0 0 (MQ below (gQv X σr) args s 0 0 (gA X)) (F0 m 177 ls [])) :
    ∀ (σ : GM) (v4 : Int32) (H : Heap) (locs : List Loc) (ls : Array Slot), gI X σ s H locs → lv_has ls 5 [(0, .ref (X.2.1 + 60)), (2, .int v2), (4, .int v4)] → f_X12_next_L233 k177 v2 σ v4 = some σr →
    W p l e ({ frames := 1, cells := 0, slots := 0, locals := 21 } : Room) s m args below meth c H locs 0 0 (MQ below (gQv X σr) args s 0 0 (gA X)) (F0 m 233 ls []) := by
  intro σ v4 H locs ls hI hl h
  unfold f_X12_next_L233 at h
  refine lv_iconst (v := (0 : Int32)) Γ.1.1 Γ.1.2.1 dX12_next_233 (by decide) ?_
  exact s_X12_next_L234 σr Γ v2 _ hk177 σ v4 (0 : Int32) _ _ _ hI hl h
set_option maxRecDepth 20000 in
set_option maxHeartbeats 4000000 in
theorem s_X12_next_L205 {p : Program} {l : Launch} {e : Env} {s : State} {m : MethodId} {args : Array Value} {below : List Frame} {meth : Method} {c : Code} {X : GX} (σr : GM) (Γ : gC X p m meth c cX12_next 5 s args RX12 none) (v2 : Int32) (k177 : GM → Int32 → Option GM) (hk177 : ∀ (σ : GM) (v3 : Int32) (H : Heap) (locs : List Loc) (ls : Array Slot), gI X σ s H locs → lv_has ls 5 [(0, .ref (X.2.1 + 60)), (2, .int v2), (3, .int v3)] → k177 σ v3 = some σr → W p l e ({ frames := 1, cells := 0, slots := 0, locals := 21 } : Room) s m args below meth c H locs 0 0 (MQ below (gQv X σr) args s 0 0 (gA X)) (F0 m 177 ls [])) :
    ∀ (σ : GM) (v3 : Int32) (H : Heap) (locs : List Loc) (ls : Array Slot), gI X σ s H locs → lv_has ls 5 [(0, .ref (X.2.1 + 60)), (2, .int v2), (3, .int v3)] → f_X12_next_L205 k177 v2 σ v3 = some σr →
    W p l e ({ frames := 1, cells := 0, slots := 0, locals := 21 } : Room) s m args below meth c H locs 0 0 (MQ below (gQv X σr) args s 0 0 (gA X)) (F0 m 205 ls []) := by
  intro σ v3 H locs ls hI hl h
  unfold f_X12_next_L205 at h
  refine lv_aload_n Γ.1.1 Γ.1.2.1 dX12_next_205 rfl (lv_at hl 0 rfl) ?_
  refine get_X12_tape Γ hI gw_213 dX12_next_206 ?_
  refine lv_aload_n Γ.1.1 Γ.1.2.1 dX12_next_209 rfl (lv_at hl 0 rfl) ?_
  refine get_X12_to Γ hI gw_217 dX12_next_210 ?_
  refine lv_topi (fun i_20 e_i_20 => ?_)
  replace h := nm_at e_i_20 h; clear e_i_20
  obtain ⟨hb_21, h⟩ := bnd_some h
  refine g_iald Γ hI sh_61 hb_21 dX12_next_213 ?_
  refine lv_topi (fun v4_22 e_v4_22 => ?_)
  replace h := nm_at e_v4_22 h; clear e_v4_22
  refine lv_istore (lv' := [(4, .int v4_22), (0, .ref (X.2.1 + 60)), (2, .int v2), (3, .int v3)]) Γ.1.1 Γ.1.2.1 dX12_next_214 hl (by decide) rfl (fun ls hl => ?_)
  refine lv_iload_n Γ.1.1 Γ.1.2.1 dX12_next_216 rfl (lv_at hl 3 rfl) ?_
  refine lv_if_eq (tgt := 233) Γ.1.1 Γ.1.2.1 dX12_next_217 (by decide) (fun c_23 => ?_) (fun c_23 => ?_)
  · replace h := ite_pos c_23 h; clear c_23
    exact s_X12_next_L233 σr Γ v2 _ hk177 σ v4_22 _ _ _ hI (lv_sub hl [1, 2, 0] rfl) h
  · replace h := ite_neg c_23 h; clear c_23
    refine lv_iload Γ.1.1 Γ.1.2.1 dX12_next_220 (lv_at hl 0 rfl) ?_
    obtain ⟨r_29, hr_29, h⟩ := ob_some h
    refine g_ci Γ hI (g_runS (As := [.int v4_22]) Γ hI (S_X12_isLetter l X σ v4_22 r_29 hr_29) mf_X12_isLetter gw_219 rfl rfl ⟨Nat.le_of_ble_eq_true rfl, Nat.le_of_ble_eq_true rfl⟩ rfl hl.1 rfl (Nat.le_of_ble_eq_true rfl) dX12_next_222 ⟨Nat.zero_le _, Nat.zero_le _⟩) (fun H locs hI => ?_)
    clear hr_29
    refine lv_iload_n Γ.1.1 Γ.1.2.1 dX12_next_225 rfl (lv_at hl 2 rfl) ?_
    refine lv_icmp_ne (tgt := 233) Γ.1.1 Γ.1.2.1 dX12_next_226 (by decide) (fun c_31 => ?_) (fun c_31 => ?_)
    · replace h := ite_neg c_31 h; clear c_31
      exact s_X12_next_L233 σr Γ v2 _ hk177 σ v4_22 _ _ _ hI (lv_sub hl [1, 2, 0] rfl) h
    · replace h := ite_pos c_31 h; clear c_31
      refine lv_iconst (v := (1 : Int32)) Γ.1.1 Γ.1.2.1 dX12_next_229 (by decide) ?_
      refine lv_goto (tgt := 234) Γ.1.1 Γ.1.2.1 dX12_next_230 (by decide) ?_
      exact s_X12_next_L234 σr Γ v2 _ hk177 σ v4_22 (1 : Int32) _ _ _ hI (lv_sub hl [1, 2, 0] rfl) h
set_option maxRecDepth 20000 in
set_option maxHeartbeats 4000000 in
theorem s_X12_next_L336 {p : Program} {l : Launch} {e : Env} {s : State} {m : MethodId} {args : Array Value} {below : List Frame} {meth : Method} {c : Code} {X : GX} (σr : GM) (Γ : gC X p m meth c cX12_next 5 s args RX12 none) :
    ∀ (σ : GM) (v2 : Int32) (s1 : Int32) (s2 : Int32) (H : Heap) (locs : List Loc) (ls : Array Slot), gI X σ s H locs → lv_has ls 5 [(2, .int v2)] → f_X12_next_L336 σ v2 s1 s2 = some σr →
    W p l e ({ frames := 1, cells := 0, slots := 0, locals := 21 } : Room) s m args below meth c H locs 0 0 (MQ below (gQv X σr) args s 0 0 (gA X)) (F0 m 336 ls [.int s2, .int s1, .ref (X.2.1 + 60)]) := by
  intro σ v2 s1 s2 H locs ls hI hl h
  unfold f_X12_next_L336 at h
  refine lv_icmp_le (tgt := 343) Γ.1.1 Γ.1.2.1 dX12_next_336 (by decide) (fun c_40 => ?_) (fun c_40 => ?_)
  · replace h := ite_pos c_40 h; clear c_40
    refine lv_iload_n Γ.1.1 Γ.1.2.1 dX12_next_343 rfl (lv_at hl 0 rfl) ?_
    refine lv_if_eq (tgt := 351) Γ.1.1 Γ.1.2.1 dX12_next_344 (by decide) (fun c_41 => ?_) (fun c_41 => ?_)
    · replace h := ite_pos c_41 h; clear c_41
      refine lv_iconst (v := (3 : Int32)) Γ.1.1 Γ.1.2.1 dX12_next_351 (by decide) ?_
      refine put_X12_kind Γ hI gw_226 dX12_next_352 (fun H locs hI => ?_)
      obtain ⟨σ_42, e_m_42, h⟩ := nm_some h
      rw [← e_m_42] at hI; clear e_m_42
      exact g_vret Γ hI dX12_next_355 (Option.some.inj h)
    · replace h := ite_neg c_41 h; clear c_41
      refine lv_iconst (v := (2 : Int32)) Γ.1.1 Γ.1.2.1 dX12_next_347 (by decide) ?_
      refine lv_goto (tgt := 352) Γ.1.1 Γ.1.2.1 dX12_next_348 (by decide) ?_
      refine put_X12_kind Γ hI gw_226 dX12_next_352 (fun H locs hI => ?_)
      obtain ⟨σ_43, e_m_43, h⟩ := nm_some h
      rw [← e_m_43] at hI; clear e_m_43
      exact g_vret Γ hI dX12_next_355 (Option.some.inj h)
  · replace h := ite_neg c_40 h; clear c_40
    refine lv_iconst (v := (1 : Int32)) Γ.1.1 Γ.1.2.1 dX12_next_339 (by decide) ?_
    refine lv_goto (tgt := 352) Γ.1.1 Γ.1.2.1 dX12_next_340 (by decide) ?_
    refine put_X12_kind Γ hI gw_226 dX12_next_352 (fun H locs hI => ?_)
    obtain ⟨σ_44, e_m_44, h⟩ := nm_some h
    rw [← e_m_44] at hI; clear e_m_44
    exact g_vret Γ hI dX12_next_355 (Option.some.inj h)
set_option maxRecDepth 20000 in
set_option maxHeartbeats 4000000 in
theorem s_X12_next_L312 {p : Program} {l : Launch} {e : Env} {s : State} {m : MethodId} {args : Array Value} {below : List Frame} {meth : Method} {c : Code} {X : GX} (σr : GM) (Γ : gC X p m meth c cX12_next 5 s args RX12 none) :
    ∀ (σ : GM) (v2 : Int32) (v3 : Int32) (H : Heap) (locs : List Loc) (ls : Array Slot), gI X σ s H locs → lv_has ls 5 [(0, .ref (X.2.1 + 60)), (2, .int v2), (3, .int v3)] → f_X12_next_L312 σ v2 v3 = some σr →
    W p l e ({ frames := 1, cells := 0, slots := 0, locals := 21 } : Room) s m args below meth c H locs 0 0 (MQ below (gQv X σr) args s 0 0 (gA X)) (F0 m 312 ls []) := by
  intro σ v2 v3 H locs ls hI hl h
  unfold f_X12_next_L312 at h
  refine lv_aload_n Γ.1.1 Γ.1.2.1 dX12_next_312 rfl (lv_at hl 0 rfl) ?_
  refine lv_iload_n Γ.1.1 Γ.1.2.1 dX12_next_313 rfl (lv_at hl 2 rfl) ?_
  refine lv_if_eq (tgt := 339) Γ.1.1 Γ.1.2.1 dX12_next_314 (by decide) (fun c_37 => ?_) (fun c_37 => ?_)
  · replace h := ite_pos c_37 h; clear c_37
    refine lv_iconst (v := (1 : Int32)) Γ.1.1 Γ.1.2.1 dX12_next_339 (by decide) ?_
    refine lv_goto (tgt := 352) Γ.1.1 Γ.1.2.1 dX12_next_340 (by decide) ?_
    refine put_X12_kind Γ hI gw_226 dX12_next_352 (fun H locs hI => ?_)
    obtain ⟨σ_38, e_m_38, h⟩ := nm_some h
    rw [← e_m_38] at hI; clear e_m_38
    exact g_vret Γ hI dX12_next_355 (Option.some.inj h)
  · replace h := ite_neg c_37 h; clear c_37
    refine lv_aload_n Γ.1.1 Γ.1.2.1 dX12_next_317 rfl (lv_at hl 0 rfl) ?_
    refine get_X12_to Γ hI gw_217 dX12_next_318 ?_
    refine lv_aload_n Γ.1.1 Γ.1.2.1 dX12_next_321 rfl (lv_at hl 0 rfl) ?_
    refine get_X12_from Γ hI gw_218 dX12_next_322 ?_
    refine lv_isub Γ.1.1 Γ.1.2.1 dX12_next_325 ?_
    refine lv_iload_n Γ.1.1 Γ.1.2.1 dX12_next_326 rfl (lv_at hl 1 rfl) ?_
    refine lv_if_eq (tgt := 335) Γ.1.1 Γ.1.2.1 dX12_next_327 (by decide) (fun c_39 => ?_) (fun c_39 => ?_)
    · replace h := ite_pos c_39 h; clear c_39
      refine lv_iconst (v := (2 : Int32)) Γ.1.1 Γ.1.2.1 dX12_next_335 (by decide) ?_
      exact s_X12_next_L336 σr Γ σ v2 ((σ.1 60 4) - (σ.1 60 5)) (2 : Int32) _ _ _ hI (lv_sub hl [1] rfl) h
    · replace h := ite_neg c_39 h; clear c_39
      refine lv_bipush (v := (7 : Int32)) Γ.1.1 Γ.1.2.1 dX12_next_330 (by decide) ?_
      refine lv_goto (tgt := 336) Γ.1.1 Γ.1.2.1 dX12_next_332 (by decide) ?_
      exact s_X12_next_L336 σr Γ σ v2 ((σ.1 60 4) - (σ.1 60 5)) (7 : Int32) _ _ _ hI (lv_sub hl [1] rfl) h
set_option maxRecDepth 20000 in
set_option maxHeartbeats 4000000 in
theorem s_X12_next_L177 {p : Program} {l : Launch} {e : Env} {s : State} {m : MethodId} {args : Array Value} {below : List Frame} {meth : Method} {c : Code} {X : GX} (σr : GM) (Γ : gC X p m meth c cX12_next 5 s args RX12 none) (v2 : Int32) :
    ∀ (k : Nat) (σ : GM) (v3 : Int32) (H : Heap) (locs : List Loc) (ls : Array Slot), gI X σ s H locs → lv_has ls 5 [(0, .ref (X.2.1 + 60)), (2, .int v2), (3, .int v3)] → f_X12_next_L177 v2 k σ v3 = some σr →
    W p l e ({ frames := 1, cells := 0, slots := 0, locals := 21 } : Room) s m args below meth c H locs 0 0 (MQ below (gQv X σr) args s 0 0 (gA X)) (F0 m 177 ls []) := by
  intro k
  induction k with
  | zero =>
    intro σ v3 H locs ls hI hl h
    exact absurd h (by simp [f_X12_next_L177])
  | succ k ih =>
    intro σ v3 H locs ls hI hl h
    unfold f_X12_next_L177 at h
    refine lv_aload_n Γ.1.1 Γ.1.2.1 dX12_next_177 rfl (lv_at hl 0 rfl) ?_
    refine lv_aload_n Γ.1.1 Γ.1.2.1 dX12_next_178 rfl (lv_at hl 0 rfl) ?_
    refine get_X12_to Γ hI gw_217 dX12_next_179 ?_
    obtain ⟨r_15, hr_15, h⟩ := ob_some h
    refine g_ci Γ hI (g_runV (As := [.int (σ.1 60 4)]) Γ hI (S_X12_tapeAt l X σ (σ.1 60 4) r_15 hr_15) mf_X12_tapeAt (recv_X12 Γ hI) gw_222 rfl rfl ⟨Nat.le_of_ble_eq_true rfl, Nat.le_of_ble_eq_true rfl⟩ rfl hl.1 rfl (Nat.le_of_ble_eq_true rfl) dX12_next_182 ⟨Nat.zero_le _, Nat.zero_le _⟩) (fun H locs hI => ?_)
    clear hr_15
    obtain ⟨r_17, hr_17, h⟩ := ob_some h
    refine g_ci Γ hI (g_runS (As := [.int r_15]) Γ hI (S_X12_isLetter l X σ r_15 r_17 hr_17) mf_X12_isLetter gw_219 rfl rfl ⟨Nat.le_of_ble_eq_true rfl, Nat.le_of_ble_eq_true rfl⟩ rfl hl.1 rfl (Nat.le_of_ble_eq_true rfl) dX12_next_185 ⟨Nat.zero_le _, Nat.zero_le _⟩) (fun H locs hI => ?_)
    clear hr_17
    refine lv_if_ne (tgt := 205) Γ.1.1 Γ.1.2.1 dX12_next_188 (by decide) (fun c_19 => ?_) (fun c_19 => ?_)
    · replace h := ite_neg c_19 h; clear c_19
      exact s_X12_next_L205 σr Γ v2 _ ih σ v3 _ _ _ hI hl h
    · replace h := ite_pos c_19 h; clear c_19
      refine lv_aload_n Γ.1.1 Γ.1.2.1 dX12_next_191 rfl (lv_at hl 0 rfl) ?_
      refine lv_aload_n Γ.1.1 Γ.1.2.1 dX12_next_192 rfl (lv_at hl 0 rfl) ?_
      refine get_X12_to Γ hI gw_217 dX12_next_193 ?_
      obtain ⟨r_32, hr_32, h⟩ := ob_some h
      refine g_ci Γ hI (g_runV (As := [.int (σ.1 60 4)]) Γ hI (S_X12_tapeAt l X σ (σ.1 60 4) r_32 hr_32) mf_X12_tapeAt (recv_X12 Γ hI) gw_222 rfl rfl ⟨Nat.le_of_ble_eq_true rfl, Nat.le_of_ble_eq_true rfl⟩ rfl hl.1 rfl (Nat.le_of_ble_eq_true rfl) dX12_next_196 ⟨Nat.zero_le _, Nat.zero_le _⟩) (fun H locs hI => ?_)
      clear hr_32
      obtain ⟨r_34, hr_34, h⟩ := ob_some h
      refine g_ci Γ hI (g_runS (As := [.int r_32]) Γ hI (S_X12_isDigit l X σ r_32 r_34 hr_34) mf_X12_isDigit gw_225 rfl rfl ⟨Nat.le_of_ble_eq_true rfl, Nat.le_of_ble_eq_true rfl⟩ rfl hl.1 rfl (Nat.le_of_ble_eq_true rfl) dX12_next_199 ⟨Nat.zero_le _, Nat.zero_le _⟩) (fun H locs hI => ?_)
      clear hr_34
      refine lv_if_eq (tgt := 312) Γ.1.1 Γ.1.2.1 dX12_next_202 (by decide) (fun c_36 => ?_) (fun c_36 => ?_)
      · replace h := ite_pos c_36 h; clear c_36
        exact s_X12_next_L312 σr Γ σ v2 v3 _ _ _ hI hl h
      · replace h := ite_neg c_36 h; clear c_36
        exact s_X12_next_L205 σr Γ v2 _ ih σ v3 _ _ _ hI hl h
set_option maxRecDepth 20000 in
set_option maxHeartbeats 4000000 in
theorem s_X12_next_L160 {p : Program} {l : Launch} {e : Env} {s : State} {m : MethodId} {args : Array Value} {below : List Frame} {meth : Method} {c : Code} {X : GX} (σr : GM) (Γ : gC X p m meth c cX12_next 5 s args RX12 none) :
    ∀ (σ : GM) (v1 : Int32) (H : Heap) (locs : List Loc) (ls : Array Slot), gI X σ s H locs → lv_has ls 5 [(0, .ref (X.2.1 + 60)), (1, .int v1)] → f_X12_next_L160 σ v1 = some σr →
    W p l e ({ frames := 1, cells := 0, slots := 0, locals := 21 } : Room) s m args below meth c H locs 0 0 (MQ below (gQv X σr) args s 0 0 (gA X)) (F0 m 160 ls []) := by
  intro σ v1 H locs ls hI hl h
  unfold f_X12_next_L160 at h
  refine lv_iload_n Γ.1.1 Γ.1.2.1 dX12_next_160 rfl (lv_at hl 1 rfl) ?_
  obtain ⟨r_11, hr_11, h⟩ := ob_some h
  refine g_ci Γ hI (g_runS (As := [.int v1]) Γ hI (S_X12_isLetter l X σ v1 r_11 hr_11) mf_X12_isLetter gw_219 rfl rfl ⟨Nat.le_of_ble_eq_true rfl, Nat.le_of_ble_eq_true rfl⟩ rfl hl.1 rfl (Nat.le_of_ble_eq_true rfl) dX12_next_161 ⟨Nat.zero_le _, Nat.zero_le _⟩) (fun H locs hI => ?_)
  clear hr_11
  refine lv_istore_n (lv' := [(2, .int r_11), (0, .ref (X.2.1 + 60)), (1, .int v1)]) Γ.1.1 Γ.1.2.1 dX12_next_164 rfl hl (by decide) rfl (fun ls hl => ?_)
  refine lv_iconst (v := (1 : Int32)) Γ.1.1 Γ.1.2.1 dX12_next_165 (by decide) ?_
  refine lv_istore_n (lv' := [(3, .int (1 : Int32)), (2, .int r_11), (0, .ref (X.2.1 + 60)), (1, .int v1)]) Γ.1.1 Γ.1.2.1 dX12_next_166 rfl hl (by decide) rfl (fun ls hl => ?_)
  refine lv_aload_n Γ.1.1 Γ.1.2.1 dX12_next_167 rfl (lv_at hl 2 rfl) ?_
  refine lv_lconst (v := (0 : Int64)) Γ.1.1 Γ.1.2.1 dX12_next_168 (by decide) ?_
  refine put_X12_word Γ hI gw_220 dX12_next_169 (fun H locs hI => ?_)
  obtain ⟨σ_13, e_m_13, h⟩ := nm_some h
  rw [← e_m_13] at hI; clear e_m_13
  refine lv_aload_n Γ.1.1 Γ.1.2.1 dX12_next_172 rfl (lv_at hl 2 rfl) ?_
  refine lv_iconst (v := (0 : Int32)) Γ.1.1 Γ.1.2.1 dX12_next_173 (by decide) ?_
  refine put_X12_number Γ hI gw_221 dX12_next_174 (fun H locs hI => ?_)
  obtain ⟨σ_14, e_m_14, h⟩ := nm_some h
  rw [← e_m_14] at hI; clear e_m_14
  exact s_X12_next_L177 σr Γ r_11 _ σ_14 (1 : Int32) _ _ _ hI (lv_sub hl [2, 1, 0] rfl) h
set_option maxRecDepth 20000 in
set_option maxHeartbeats 4000000 in
theorem s_X12_next_L146 {p : Program} {l : Launch} {e : Env} {s : State} {m : MethodId} {args : Array Value} {below : List Frame} {meth : Method} {c : Code} {X : GX} (σr : GM) (Γ : gC X p m meth c cX12_next 5 s args RX12 none) :
    ∀ (σ : GM) (s1 : Int32) (H : Heap) (locs : List Loc) (ls : Array Slot), gI X σ s H locs → lv_has ls 5 [(0, .ref (X.2.1 + 60))] → f_X12_next_L146 σ s1 = some σr →
    W p l e ({ frames := 1, cells := 0, slots := 0, locals := 21 } : Room) s m args below meth c H locs 0 0 (MQ below (gQv X σr) args s 0 0 (gA X)) (F0 m 146 ls [.int s1, .ref (X.2.1 + 60)]) := by
  intro σ s1 H locs ls hI hl h
  unfold f_X12_next_L146 at h
  refine put_X12_kind Γ hI gw_226 dX12_next_146 (fun H locs hI => ?_)
  obtain ⟨σ_49, e_m_49, h⟩ := nm_some h
  rw [← e_m_49] at hI; clear e_m_49
  refine lv_aload_n Γ.1.1 Γ.1.2.1 dX12_next_149 rfl (lv_at hl 0 rfl) ?_
  refine lv_dup Γ.1.1 Γ.1.2.1 dX12_next_150 rfl ?_
  refine get_X12_to Γ hI gw_217 dX12_next_151 ?_
  refine lv_iconst (v := (1 : Int32)) Γ.1.1 Γ.1.2.1 dX12_next_154 (by decide) ?_
  refine lv_iadd Γ.1.1 Γ.1.2.1 dX12_next_155 ?_
  refine put_X12_to Γ hI gw_217 dX12_next_156 (fun H locs hI => ?_)
  obtain ⟨σ_50, e_m_50, h⟩ := nm_some h
  rw [← e_m_50] at hI; clear e_m_50
  exact g_vret Γ hI dX12_next_159 (Option.some.inj h)
set_option maxRecDepth 20000 in
set_option maxHeartbeats 4000000 in
theorem s_X12_next_L93 {p : Program} {l : Launch} {e : Env} {s : State} {m : MethodId} {args : Array Value} {below : List Frame} {meth : Method} {c : Code} {X : GX} (σr : GM) (Γ : gC X p m meth c cX12_next 5 s args RX12 none) :
    ∀ (σ : GM) (H : Heap) (locs : List Loc) (ls : Array Slot), gI X σ s H locs → lv_has ls 5 [(0, .ref (X.2.1 + 60))] → f_X12_next_L93 σ = some σr →
    W p l e ({ frames := 1, cells := 0, slots := 0, locals := 21 } : Room) s m args below meth c H locs 0 0 (MQ below (gQv X σr) args s 0 0 (gA X)) (F0 m 93 ls []) := by
  intro σ H locs ls hI hl h
  unfold f_X12_next_L93 at h
  refine lv_aload_n Γ.1.1 Γ.1.2.1 dX12_next_93 rfl (lv_at hl 0 rfl) ?_
  refine get_X12_to Γ hI gw_217 dX12_next_94 ?_
  refine lv_aload_n Γ.1.1 Γ.1.2.1 dX12_next_97 rfl (lv_at hl 0 rfl) ?_
  refine get_X12_size Γ hI gw_216 dX12_next_98 ?_
  refine lv_icmp_lt (tgt := 110) Γ.1.1 Γ.1.2.1 dX12_next_101 (by decide) (fun c_4 => ?_) (fun c_4 => ?_)
  · replace h := ite_pos c_4 h; clear c_4
    refine lv_aload_n Γ.1.1 Γ.1.2.1 dX12_next_110 rfl (lv_at hl 0 rfl) ?_
    refine get_X12_tape Γ hI gw_213 dX12_next_111 ?_
    refine lv_aload_n Γ.1.1 Γ.1.2.1 dX12_next_114 rfl (lv_at hl 0 rfl) ?_
    refine get_X12_to Γ hI gw_217 dX12_next_115 ?_
    refine lv_topi (fun i_5 e_i_5 => ?_)
    replace h := nm_at e_i_5 h; clear e_i_5
    obtain ⟨hb_6, h⟩ := bnd_some h
    refine g_iald Γ hI sh_61 hb_6 dX12_next_118 ?_
    refine lv_topi (fun v1_7 e_v1_7 => ?_)
    replace h := nm_at e_v1_7 h; clear e_v1_7
    refine lv_istore_n (lv' := [(1, .int v1_7), (0, .ref (X.2.1 + 60))]) Γ.1.1 Γ.1.2.1 dX12_next_119 rfl hl (by decide) rfl (fun ls hl => ?_)
    refine lv_iload_n Γ.1.1 Γ.1.2.1 dX12_next_120 rfl (lv_at hl 0 rfl) ?_
    obtain ⟨r_8, hr_8, h⟩ := ob_some h
    refine g_ci Γ hI (g_runS (As := [.int v1_7]) Γ hI (S_X12_isLetter l X σ v1_7 r_8 hr_8) mf_X12_isLetter gw_219 rfl rfl ⟨Nat.le_of_ble_eq_true rfl, Nat.le_of_ble_eq_true rfl⟩ rfl hl.1 rfl (Nat.le_of_ble_eq_true rfl) dX12_next_121 ⟨Nat.zero_le _, Nat.zero_le _⟩) (fun H locs hI => ?_)
    clear hr_8
    refine lv_if_ne (tgt := 160) Γ.1.1 Γ.1.2.1 dX12_next_124 (by decide) (fun c_10 => ?_) (fun c_10 => ?_)
    · replace h := ite_neg c_10 h; clear c_10
      exact s_X12_next_L160 σr Γ σ v1_7 _ _ _ hI (lv_sub hl [1, 0] rfl) h
    · replace h := ite_pos c_10 h; clear c_10
      refine lv_iload_n Γ.1.1 Γ.1.2.1 dX12_next_127 rfl (lv_at hl 0 rfl) ?_
      obtain ⟨r_45, hr_45, h⟩ := ob_some h
      refine g_ci Γ hI (g_runS (As := [.int v1_7]) Γ hI (S_X12_isDigit l X σ v1_7 r_45 hr_45) mf_X12_isDigit gw_225 rfl rfl ⟨Nat.le_of_ble_eq_true rfl, Nat.le_of_ble_eq_true rfl⟩ rfl hl.1 rfl (Nat.le_of_ble_eq_true rfl) dX12_next_128 ⟨Nat.zero_le _, Nat.zero_le _⟩) (fun H locs hI => ?_)
      clear hr_45
      refine lv_if_ne (tgt := 160) Γ.1.1 Γ.1.2.1 dX12_next_131 (by decide) (fun c_47 => ?_) (fun c_47 => ?_)
      · replace h := ite_neg c_47 h; clear c_47
        exact s_X12_next_L160 σr Γ σ v1_7 _ _ _ hI (lv_sub hl [1, 0] rfl) h
      · replace h := ite_pos c_47 h; clear c_47
        refine lv_aload_n Γ.1.1 Γ.1.2.1 dX12_next_134 rfl (lv_at hl 1 rfl) ?_
        refine lv_iload_n Γ.1.1 Γ.1.2.1 dX12_next_135 rfl (lv_at hl 0 rfl) ?_
        refine lv_bipush (v := (59 : Int32)) Γ.1.1 Γ.1.2.1 dX12_next_136 (by decide) ?_
        refine lv_icmp_ne (tgt := 145) Γ.1.1 Γ.1.2.1 dX12_next_138 (by decide) (fun c_48 => ?_) (fun c_48 => ?_)
        · replace h := ite_neg c_48 h; clear c_48
          refine lv_iconst (v := (1 : Int32)) Γ.1.1 Γ.1.2.1 dX12_next_145 (by decide) ?_
          exact s_X12_next_L146 σr Γ σ (1 : Int32) _ _ _ hI (lv_sub hl [1] rfl) h
        · replace h := ite_pos c_48 h; clear c_48
          refine lv_iconst (v := (4 : Int32)) Γ.1.1 Γ.1.2.1 dX12_next_141 (by decide) ?_
          refine lv_goto (tgt := 146) Γ.1.1 Γ.1.2.1 dX12_next_142 (by decide) ?_
          exact s_X12_next_L146 σr Γ σ (4 : Int32) _ _ _ hI (lv_sub hl [1] rfl) h
  · replace h := ite_neg c_4 h; clear c_4
    refine lv_aload_n Γ.1.1 Γ.1.2.1 dX12_next_104 rfl (lv_at hl 0 rfl) ?_
    refine lv_iconst (v := (0 : Int32)) Γ.1.1 Γ.1.2.1 dX12_next_105 (by decide) ?_
    refine put_X12_kind Γ hI gw_226 dX12_next_106 (fun H locs hI => ?_)
    obtain ⟨σ_51, e_m_51, h⟩ := nm_some h
    rw [← e_m_51] at hI; clear e_m_51
    exact g_vret Γ hI dX12_next_109 (Option.some.inj h)
set_option maxRecDepth 20000 in
set_option maxHeartbeats 4000000 in
theorem s_X12_next_L52 {p : Program} {l : Launch} {e : Env} {s : State} {m : MethodId} {args : Array Value} {below : List Frame} {meth : Method} {c : Code} {X : GX} (σr : GM) (Γ : gC X p m meth c cX12_next 5 s args RX12 none) :
    ∀ (σ : GM) (H : Heap) (locs : List Loc) (ls : Array Slot), gI X σ s H locs → lv_has ls 5 [(0, .ref (X.2.1 + 60))] → f_X12_next_L52 σ = some σr →
    W p l e ({ frames := 1, cells := 0, slots := 0, locals := 21 } : Room) s m args below meth c H locs 0 0 (MQ below (gQv X σr) args s 0 0 (gA X)) (F0 m 52 ls []) := by
  intro σ H locs ls hI hl h
  unfold f_X12_next_L52 at h
  refine lv_aload_n Γ.1.1 Γ.1.2.1 dX12_next_52 rfl (lv_at hl 0 rfl) ?_
  refine lv_aload_n Γ.1.1 Γ.1.2.1 dX12_next_53 rfl (lv_at hl 0 rfl) ?_
  refine get_X12_to Γ hI gw_217 dX12_next_54 ?_
  refine put_X12_from Γ hI gw_218 dX12_next_57 (fun H locs hI => ?_)
  obtain ⟨σ_2, e_m_2, h⟩ := nm_some h
  rw [← e_m_2] at hI; clear e_m_2
  refine lv_aload_n Γ.1.1 Γ.1.2.1 dX12_next_60 rfl (lv_at hl 0 rfl) ?_
  refine get_X12_size Γ hI gw_216 dX12_next_61 ?_
  refine lv_sipush (v := (600 : Int32)) Γ.1.1 Γ.1.2.1 dX12_next_64 (by decide) ?_
  refine lv_icmp_le (tgt := 93) Γ.1.1 Γ.1.2.1 dX12_next_67 (by decide) (fun c_3 => ?_) (fun c_3 => ?_)
  · replace h := ite_pos c_3 h; clear c_3
    exact s_X12_next_L93 σr Γ σ_2 _ _ _ hI hl h
  · replace h := ite_neg c_3 h; clear c_3
    refine lv_aload_n Γ.1.1 Γ.1.2.1 dX12_next_70 rfl (lv_at hl 0 rfl) ?_
    refine get_X12_from Γ hI gw_218 dX12_next_71 ?_
    refine lv_sipush (v := (600 : Int32)) Γ.1.1 Γ.1.2.1 dX12_next_74 (by decide) ?_
    refine lv_icmp_lt (tgt := 93) Γ.1.1 Γ.1.2.1 dX12_next_77 (by decide) (fun c_52 => ?_) (fun c_52 => ?_)
    · replace h := ite_pos c_52 h; clear c_52
      exact s_X12_next_L93 σr Γ σ_2 _ _ _ hI hl h
    · replace h := ite_neg c_52 h; clear c_52
      refine lv_aload_n Γ.1.1 Γ.1.2.1 dX12_next_80 rfl (lv_at hl 0 rfl) ?_
      refine lv_sipush (v := (600 : Int32)) Γ.1.1 Γ.1.2.1 dX12_next_81 (by decide) ?_
      refine put_X12_from Γ hI gw_218 dX12_next_84 (fun H locs hI => ?_)
      obtain ⟨σ_53, e_m_53, h⟩ := nm_some h
      rw [← e_m_53] at hI; clear e_m_53
      refine lv_aload_n Γ.1.1 Γ.1.2.1 dX12_next_87 rfl (lv_at hl 0 rfl) ?_
      refine lv_iconst (v := (1 : Int32)) Γ.1.1 Γ.1.2.1 dX12_next_88 (by decide) ?_
      refine put_X12_kind Γ hI gw_226 dX12_next_89 (fun H locs hI => ?_)
      obtain ⟨σ_54, e_m_54, h⟩ := nm_some h
      rw [← e_m_54] at hI; clear e_m_54
      exact g_vret Γ hI dX12_next_92 (Option.some.inj h)
set_option maxRecDepth 20000 in
set_option maxHeartbeats 4000000 in
theorem s_X12_next_L39 {p : Program} {l : Launch} {e : Env} {s : State} {m : MethodId} {args : Array Value} {below : List Frame} {meth : Method} {c : Code} {X : GX} (σr : GM) (Γ : gC X p m meth c cX12_next 5 s args RX12 none) (k0 : GM → Option GM) (hk0 : ∀ (σ : GM) (H : Heap) (locs : List Loc) (ls : Array Slot), gI X σ s H locs → lv_has ls 5 [(0, .ref (X.2.1 + 60))] → k0 σ = some σr → W p l e ({ frames := 1, cells := 0, slots := 0, locals := 21 } : Room) s m args below meth c H locs 0 0 (MQ below (gQv X σr) args s 0 0 (gA X)) (F0 m 0 ls [])) :
    ∀ (σ : GM) (H : Heap) (locs : List Loc) (ls : Array Slot), gI X σ s H locs → lv_has ls 5 [(0, .ref (X.2.1 + 60))] → f_X12_next_L39 k0 σ = some σr →
    W p l e ({ frames := 1, cells := 0, slots := 0, locals := 21 } : Room) s m args below meth c H locs 0 0 (MQ below (gQv X σr) args s 0 0 (gA X)) (F0 m 39 ls []) := by
  intro σ H locs ls hI hl h
  unfold f_X12_next_L39 at h
  refine lv_aload_n Γ.1.1 Γ.1.2.1 dX12_next_39 rfl (lv_at hl 0 rfl) ?_
  refine lv_dup Γ.1.1 Γ.1.2.1 dX12_next_40 rfl ?_
  refine get_X12_to Γ hI gw_217 dX12_next_41 ?_
  refine lv_iconst (v := (1 : Int32)) Γ.1.1 Γ.1.2.1 dX12_next_44 (by decide) ?_
  refine lv_iadd Γ.1.1 Γ.1.2.1 dX12_next_45 ?_
  refine put_X12_to Γ hI gw_217 dX12_next_46 (fun H locs hI => ?_)
  obtain ⟨σ_58, e_m_58, h⟩ := nm_some h
  rw [← e_m_58] at hI; clear e_m_58
  refine lv_goto (tgt := 0) Γ.1.1 Γ.1.2.1 dX12_next_49 (by decide) ?_
  exact hk0 σ_58 _ _ _ hI hl h
set_option maxRecDepth 20000 in
set_option maxHeartbeats 4000000 in
theorem s_X12_next_L0 {p : Program} {l : Launch} {e : Env} {s : State} {m : MethodId} {args : Array Value} {below : List Frame} {meth : Method} {c : Code} {X : GX} (σr : GM) (Γ : gC X p m meth c cX12_next 5 s args RX12 none) :
    ∀ (k : Nat) (σ : GM) (H : Heap) (locs : List Loc) (ls : Array Slot), gI X σ s H locs → lv_has ls 5 [(0, .ref (X.2.1 + 60))] → f_X12_next_L0 k σ = some σr →
    W p l e ({ frames := 1, cells := 0, slots := 0, locals := 21 } : Room) s m args below meth c H locs 0 0 (MQ below (gQv X σr) args s 0 0 (gA X)) (F0 m 0 ls []) := by
  intro k
  induction k with
  | zero =>
    intro σ H locs ls hI hl h
    exact absurd h (by simp [f_X12_next_L0])
  | succ k ih =>
    intro σ H locs ls hI hl h
    unfold f_X12_next_L0 at h
    refine lv_aload_n Γ.1.1 Γ.1.2.1 dX12_next_0 rfl (lv_at hl 0 rfl) ?_
    refine get_X12_to Γ hI gw_217 dX12_next_1 ?_
    refine lv_aload_n Γ.1.1 Γ.1.2.1 dX12_next_4 rfl (lv_at hl 0 rfl) ?_
    refine get_X12_size Γ hI gw_216 dX12_next_5 ?_
    refine lv_icmp_ge (tgt := 52) Γ.1.1 Γ.1.2.1 dX12_next_8 (by decide) (fun c_1 => ?_) (fun c_1 => ?_)
    · replace h := ite_pos c_1 h; clear c_1
      exact s_X12_next_L52 σr Γ σ _ _ _ hI hl h
    · replace h := ite_neg c_1 h; clear c_1
      refine lv_aload_n Γ.1.1 Γ.1.2.1 dX12_next_11 rfl (lv_at hl 0 rfl) ?_
      refine get_X12_tape Γ hI gw_213 dX12_next_12 ?_
      refine lv_aload_n Γ.1.1 Γ.1.2.1 dX12_next_15 rfl (lv_at hl 0 rfl) ?_
      refine get_X12_to Γ hI gw_217 dX12_next_16 ?_
      refine lv_topi (fun i_55 e_i_55 => ?_)
      replace h := nm_at e_i_55 h; clear e_i_55
      obtain ⟨hb_56, h⟩ := bnd_some h
      refine g_iald Γ hI sh_61 hb_56 dX12_next_19 ?_
      refine lv_bipush (v := (32 : Int32)) Γ.1.1 Γ.1.2.1 dX12_next_20 (by decide) ?_
      refine lv_icmp_eq (tgt := 39) Γ.1.1 Γ.1.2.1 dX12_next_22 (by decide) (fun c_57 => ?_) (fun c_57 => ?_)
      · replace h := ite_pos c_57 h; clear c_57
        exact s_X12_next_L39 σr Γ _ ih σ _ _ _ hI hl h
      · replace h := ite_neg c_57 h; clear c_57
        refine lv_aload_n Γ.1.1 Γ.1.2.1 dX12_next_25 rfl (lv_at hl 0 rfl) ?_
        refine get_X12_tape Γ hI gw_213 dX12_next_26 ?_
        refine lv_aload_n Γ.1.1 Γ.1.2.1 dX12_next_29 rfl (lv_at hl 0 rfl) ?_
        refine get_X12_to Γ hI gw_217 dX12_next_30 ?_
        refine lv_topi (fun i_59 e_i_59 => ?_)
        replace h := nm_at e_i_59 h; clear e_i_59
        obtain ⟨hb_60, h⟩ := bnd_some h
        refine g_iald Γ hI sh_61 hb_60 dX12_next_33 ?_
        refine lv_bipush (v := (10 : Int32)) Γ.1.1 Γ.1.2.1 dX12_next_34 (by decide) ?_
        refine lv_icmp_ne (tgt := 52) Γ.1.1 Γ.1.2.1 dX12_next_36 (by decide) (fun c_61 => ?_) (fun c_61 => ?_)
        · replace h := ite_neg c_61 h; clear c_61
          exact s_X12_next_L52 σr Γ σ _ _ _ hI hl h
        · replace h := ite_pos c_61 h; clear c_61
          exact s_X12_next_L39 σr Γ _ ih σ _ _ _ hI hl h
set_option maxRecDepth 20000 in
set_option maxHeartbeats 4000000 in
theorem S_X12_next (l : Launch) (X : GX) (σ : GM) (σr : GM) (h : f_X12_next σ = some σr) : gMet l yX12_next cX12_next 5 none ({ frames := 1, cells := 0, slots := 0, locals := 21 } : Room) X σ [.ref (X.2.1 + 60)] (gQv X σr) := by
  unfold f_X12_next at h
  refine gMet_of (lv := [(0, .ref (X.2.1 + 60))]) (by decide) rfl (Nat.le_of_ble_eq_true rfl) rfl (fun p e s m below meth c H ls Γ hI hl => ?_)
  exact s_X12_next_L0 σr Γ _ σ _ _ _ hI hl h
set_option maxRecDepth 20000 in
set_option maxHeartbeats 4000000 in
theorem S_X12_spelt (l : Launch) (X : GX) (σ : GM) (v0 : Int32) (v1 : Int32) (v2 : Int32) (v3 : Int32) (v4 : Int32) (x : Int64) (h : f_X12_spelt σ v0 v1 v2 v3 v4 = some x) : gMet l yX12_spelt cX12_spelt 7 (some .long) ({ frames := 0, cells := 0, slots := 0, locals := 0 } : Room) X σ [.int v0, .int v1, .int v2, .int v3, .int v4] (gQl X σ x) := by
  unfold f_X12_spelt at h
  refine gMet_of (lv := [(0, .int v0), (1, .int v1), (2, .int v2), (3, .int v3), (4, .int v4)]) (by decide) rfl (Nat.le_of_ble_eq_true rfl) rfl (fun p e s m below meth c H ls Γ hI hl => ?_)
  refine lv_ldc2 (v := (27 : Int64)) Γ.1.1 Γ.1.2.1 Γ.1.2.2.2.1 (Γ.1.2.2.2.2 _ gw_223) dX12_spelt_0 ?_
  refine lv_ldc2 (v := (27 : Int64)) Γ.1.1 Γ.1.2.1 Γ.1.2.2.2.1 (Γ.1.2.2.2.2 _ gw_223) dX12_spelt_3 ?_
  refine lv_ldc2 (v := (27 : Int64)) Γ.1.1 Γ.1.2.1 Γ.1.2.2.2.1 (Γ.1.2.2.2.2 _ gw_223) dX12_spelt_6 ?_
  refine lv_iload_n Γ.1.1 Γ.1.2.1 dX12_spelt_9 rfl (lv_at hl 0 rfl) ?_
  refine lv_i2l (v := (v0.toInt64)) Γ.1.1 Γ.1.2.1 dX12_spelt_10 rfl ?_
  refine lv_ldc2 (v := (96 : Int64)) Γ.1.1 Γ.1.2.1 Γ.1.2.2.2.1 (Γ.1.2.2.2.2 _ gw_224) dX12_spelt_11 ?_
  refine lv_lsub Γ.1.1 Γ.1.2.1 dX12_spelt_14 ?_
  refine lv_lmul Γ.1.1 Γ.1.2.1 dX12_spelt_15 ?_
  refine lv_iload_n Γ.1.1 Γ.1.2.1 dX12_spelt_16 rfl (lv_at hl 1 rfl) ?_
  refine lv_i2l (v := (v1.toInt64)) Γ.1.1 Γ.1.2.1 dX12_spelt_17 rfl ?_
  refine lv_ladd Γ.1.1 Γ.1.2.1 dX12_spelt_18 ?_
  refine lv_ldc2 (v := (96 : Int64)) Γ.1.1 Γ.1.2.1 Γ.1.2.2.2.1 (Γ.1.2.2.2.2 _ gw_224) dX12_spelt_19 ?_
  refine lv_lsub Γ.1.1 Γ.1.2.1 dX12_spelt_22 ?_
  refine lv_lmul Γ.1.1 Γ.1.2.1 dX12_spelt_23 ?_
  refine lv_iload_n Γ.1.1 Γ.1.2.1 dX12_spelt_24 rfl (lv_at hl 2 rfl) ?_
  refine lv_i2l (v := (v2.toInt64)) Γ.1.1 Γ.1.2.1 dX12_spelt_25 rfl ?_
  refine lv_ladd Γ.1.1 Γ.1.2.1 dX12_spelt_26 ?_
  refine lv_ldc2 (v := (96 : Int64)) Γ.1.1 Γ.1.2.1 Γ.1.2.2.2.1 (Γ.1.2.2.2.2 _ gw_224) dX12_spelt_27 ?_
  refine lv_lsub Γ.1.1 Γ.1.2.1 dX12_spelt_30 ?_
  refine lv_lmul Γ.1.1 Γ.1.2.1 dX12_spelt_31 ?_
  refine lv_iload_n Γ.1.1 Γ.1.2.1 dX12_spelt_32 rfl (lv_at hl 3 rfl) ?_
  refine lv_i2l (v := (v3.toInt64)) Γ.1.1 Γ.1.2.1 dX12_spelt_33 rfl ?_
  refine lv_ladd Γ.1.1 Γ.1.2.1 dX12_spelt_34 ?_
  refine lv_ldc2 (v := (96 : Int64)) Γ.1.1 Γ.1.2.1 Γ.1.2.2.2.1 (Γ.1.2.2.2.2 _ gw_224) dX12_spelt_35 ?_
  refine lv_lsub Γ.1.1 Γ.1.2.1 dX12_spelt_38 ?_
  refine lv_topl (fun v5_1 e_v5_1 => ?_)
  replace h := nm_at e_v5_1 h; clear e_v5_1
  refine lv_lstore (lv' := [(5, .long v5_1), (0, .int v0), (1, .int v1), (2, .int v2), (3, .int v3), (4, .int v4)]) Γ.1.1 Γ.1.2.1 dX12_spelt_39 hl (by decide) rfl (fun ls hl => ?_)
  refine lv_iload Γ.1.1 Γ.1.2.1 dX12_spelt_41 (lv_at hl 5 rfl) ?_
  refine lv_if_le (tgt := 63) Γ.1.1 Γ.1.2.1 dX12_spelt_43 (by decide) (fun c_2 => ?_) (fun c_2 => ?_)
  · replace h := ite_pos c_2 h; clear c_2
    refine lv_lload Γ.1.1 Γ.1.2.1 dX12_spelt_63 (lv_at hl 0 rfl) ?_
    exact g_lret Γ hI dX12_spelt_65 rfl (Option.some.inj h)
  · replace h := ite_neg c_2 h; clear c_2
    refine lv_ldc2 (v := (27 : Int64)) Γ.1.1 Γ.1.2.1 Γ.1.2.2.2.1 (Γ.1.2.2.2.2 _ gw_223) dX12_spelt_46 ?_
    refine lv_lload Γ.1.1 Γ.1.2.1 dX12_spelt_49 (lv_at hl 0 rfl) ?_
    refine lv_lmul Γ.1.1 Γ.1.2.1 dX12_spelt_51 ?_
    refine lv_iload Γ.1.1 Γ.1.2.1 dX12_spelt_52 (lv_at hl 5 rfl) ?_
    refine lv_i2l (v := (v4.toInt64)) Γ.1.1 Γ.1.2.1 dX12_spelt_54 rfl ?_
    refine lv_ladd Γ.1.1 Γ.1.2.1 dX12_spelt_55 ?_
    refine lv_ldc2 (v := (96 : Int64)) Γ.1.1 Γ.1.2.1 Γ.1.2.2.2.1 (Γ.1.2.2.2.2 _ gw_224) dX12_spelt_56 ?_
    refine lv_lsub Γ.1.1 Γ.1.2.1 dX12_spelt_59 ?_
    refine lv_goto (tgt := 65) Γ.1.1 Γ.1.2.1 dX12_spelt_60 (by decide) ?_
    exact g_lret Γ hI dX12_spelt_65 rfl (Option.some.inj h)
set_option maxRecDepth 20000 in
set_option maxHeartbeats 4000000 in
theorem S_X12_isPointWord (l : Launch) (X : GX) (σ : GM) (x : Int32) (h : f_X12_isPointWord σ = some x) : gMet l yX12_isPointWord cX12_isPointWord 1 (some .boolean) ({ frames := 1, cells := 0, slots := 0, locals := 26 } : Room) X σ [.ref (X.2.1 + 60)] (gQi X σ x) := by
  unfold f_X12_isPointWord at h
  refine gMet_of (lv := [(0, .ref (X.2.1 + 60))]) (by decide) rfl (Nat.le_of_ble_eq_true rfl) rfl (fun p e s m below meth c H ls Γ hI hl => ?_)
  refine lv_aload_n Γ.1.1 Γ.1.2.1 dX12_isPointWord_0 rfl (lv_at hl 0 rfl) ?_
  refine get_X12_kind Γ hI gw_226 dX12_isPointWord_1 ?_
  refine lv_iconst (v := (2 : Int32)) Γ.1.1 Γ.1.2.1 dX12_isPointWord_4 (by decide) ?_
  refine lv_icmp_ne (tgt := 33) Γ.1.1 Γ.1.2.1 dX12_isPointWord_5 (by decide) (fun c_1 => ?_) (fun c_1 => ?_)
  · replace h := ite_neg c_1 h; clear c_1
    refine lv_iconst (v := (0 : Int32)) Γ.1.1 Γ.1.2.1 dX12_isPointWord_33 (by decide) ?_
    exact g_zret Γ hI dX12_isPointWord_34 rfl (Option.some.inj h)
  · replace h := ite_pos c_1 h; clear c_1
    refine lv_aload_n Γ.1.1 Γ.1.2.1 dX12_isPointWord_8 rfl (lv_at hl 0 rfl) ?_
    refine get_X12_word Γ hI gw_220 dX12_isPointWord_9 ?_
    refine lv_bipush (v := (112 : Int32)) Γ.1.1 Γ.1.2.1 dX12_isPointWord_12 (by decide) ?_
    refine lv_bipush (v := (111 : Int32)) Γ.1.1 Γ.1.2.1 dX12_isPointWord_14 (by decide) ?_
    refine lv_bipush (v := (105 : Int32)) Γ.1.1 Γ.1.2.1 dX12_isPointWord_16 (by decide) ?_
    refine lv_bipush (v := (110 : Int32)) Γ.1.1 Γ.1.2.1 dX12_isPointWord_18 (by decide) ?_
    refine lv_bipush (v := (116 : Int32)) Γ.1.1 Γ.1.2.1 dX12_isPointWord_20 (by decide) ?_
    obtain ⟨r_2, hr_2, h⟩ := ob_some h
    refine g_cl Γ hI (g_runS (As := [.int (112 : Int32), .int (111 : Int32), .int (105 : Int32), .int (110 : Int32), .int (116 : Int32)]) Γ hI (S_X12_spelt l X σ (112 : Int32) (111 : Int32) (105 : Int32) (110 : Int32) (116 : Int32) r_2 hr_2) mf_X12_spelt gw_227 rfl rfl ⟨Nat.le_of_ble_eq_true rfl, Nat.le_of_ble_eq_true rfl⟩ rfl hl.1 rfl (Nat.le_of_ble_eq_true rfl) dX12_isPointWord_22 ⟨Nat.zero_le _, Nat.zero_le _⟩) (fun H locs hI => ?_)
    clear hr_2
    refine W.lcmp Γ.1.1 Γ.1.2.1 dX12_isPointWord_25 ?_
    refine lv_if_ne (tgt := 33) Γ.1.1 Γ.1.2.1 dX12_isPointWord_26 (by decide) (fun c_4 => ?_) (fun c_4 => ?_)
    · replace h := ite_neg c_4 h; clear c_4
      refine lv_iconst (v := (0 : Int32)) Γ.1.1 Γ.1.2.1 dX12_isPointWord_33 (by decide) ?_
      exact g_zret Γ hI dX12_isPointWord_34 rfl (Option.some.inj h)
    · replace h := ite_pos c_4 h; clear c_4
      refine lv_iconst (v := (1 : Int32)) Γ.1.1 Γ.1.2.1 dX12_isPointWord_29 (by decide) ?_
      refine lv_goto (tgt := 34) Γ.1.1 Γ.1.2.1 dX12_isPointWord_30 (by decide) ?_
      exact g_zret Γ hI dX12_isPointWord_34 rfl (Option.some.inj h)
set_option maxRecDepth 20000 in
set_option maxHeartbeats 4000000 in
theorem S_X12_isLineWord (l : Launch) (X : GX) (σ : GM) (x : Int32) (h : f_X12_isLineWord σ = some x) : gMet l yX12_isLineWord cX12_isLineWord 1 (some .boolean) ({ frames := 1, cells := 0, slots := 0, locals := 26 } : Room) X σ [.ref (X.2.1 + 60)] (gQi X σ x) := by
  unfold f_X12_isLineWord at h
  refine gMet_of (lv := [(0, .ref (X.2.1 + 60))]) (by decide) rfl (Nat.le_of_ble_eq_true rfl) rfl (fun p e s m below meth c H ls Γ hI hl => ?_)
  refine lv_aload_n Γ.1.1 Γ.1.2.1 dX12_isLineWord_0 rfl (lv_at hl 0 rfl) ?_
  refine get_X12_kind Γ hI gw_226 dX12_isLineWord_1 ?_
  refine lv_iconst (v := (2 : Int32)) Γ.1.1 Γ.1.2.1 dX12_isLineWord_4 (by decide) ?_
  refine lv_icmp_ne (tgt := 32) Γ.1.1 Γ.1.2.1 dX12_isLineWord_5 (by decide) (fun c_1 => ?_) (fun c_1 => ?_)
  · replace h := ite_neg c_1 h; clear c_1
    refine lv_iconst (v := (0 : Int32)) Γ.1.1 Γ.1.2.1 dX12_isLineWord_32 (by decide) ?_
    exact g_zret Γ hI dX12_isLineWord_33 rfl (Option.some.inj h)
  · replace h := ite_pos c_1 h; clear c_1
    refine lv_aload_n Γ.1.1 Γ.1.2.1 dX12_isLineWord_8 rfl (lv_at hl 0 rfl) ?_
    refine get_X12_word Γ hI gw_220 dX12_isLineWord_9 ?_
    refine lv_bipush (v := (108 : Int32)) Γ.1.1 Γ.1.2.1 dX12_isLineWord_12 (by decide) ?_
    refine lv_bipush (v := (105 : Int32)) Γ.1.1 Γ.1.2.1 dX12_isLineWord_14 (by decide) ?_
    refine lv_bipush (v := (110 : Int32)) Γ.1.1 Γ.1.2.1 dX12_isLineWord_16 (by decide) ?_
    refine lv_bipush (v := (101 : Int32)) Γ.1.1 Γ.1.2.1 dX12_isLineWord_18 (by decide) ?_
    refine lv_iconst (v := (0 : Int32)) Γ.1.1 Γ.1.2.1 dX12_isLineWord_20 (by decide) ?_
    obtain ⟨r_2, hr_2, h⟩ := ob_some h
    refine g_cl Γ hI (g_runS (As := [.int (108 : Int32), .int (105 : Int32), .int (110 : Int32), .int (101 : Int32), .int (0 : Int32)]) Γ hI (S_X12_spelt l X σ (108 : Int32) (105 : Int32) (110 : Int32) (101 : Int32) (0 : Int32) r_2 hr_2) mf_X12_spelt gw_227 rfl rfl ⟨Nat.le_of_ble_eq_true rfl, Nat.le_of_ble_eq_true rfl⟩ rfl hl.1 rfl (Nat.le_of_ble_eq_true rfl) dX12_isLineWord_21 ⟨Nat.zero_le _, Nat.zero_le _⟩) (fun H locs hI => ?_)
    clear hr_2
    refine W.lcmp Γ.1.1 Γ.1.2.1 dX12_isLineWord_24 ?_
    refine lv_if_ne (tgt := 32) Γ.1.1 Γ.1.2.1 dX12_isLineWord_25 (by decide) (fun c_4 => ?_) (fun c_4 => ?_)
    · replace h := ite_neg c_4 h; clear c_4
      refine lv_iconst (v := (0 : Int32)) Γ.1.1 Γ.1.2.1 dX12_isLineWord_32 (by decide) ?_
      exact g_zret Γ hI dX12_isLineWord_33 rfl (Option.some.inj h)
    · replace h := ite_pos c_4 h; clear c_4
      refine lv_iconst (v := (1 : Int32)) Γ.1.1 Γ.1.2.1 dX12_isLineWord_28 (by decide) ?_
      refine lv_goto (tgt := 33) Γ.1.1 Γ.1.2.1 dX12_isLineWord_29 (by decide) ?_
      exact g_zret Γ hI dX12_isLineWord_33 rfl (Option.some.inj h)
set_option maxRecDepth 20000 in
set_option maxHeartbeats 4000000 in
theorem S_X12_isName (l : Launch) (X : GX) (σ : GM) (x : Int32) (h : f_X12_isName σ = some x) : gMet l yX12_isName cX12_isName 1 (some .boolean) ({ frames := 2, cells := 0, slots := 0, locals := 46 } : Room) X σ [.ref (X.2.1 + 60)] (gQi X σ x) := by
  unfold f_X12_isName at h
  refine gMet_of (lv := [(0, .ref (X.2.1 + 60))]) (by decide) rfl (Nat.le_of_ble_eq_true rfl) rfl (fun p e s m below meth c H ls Γ hI hl => ?_)
  refine lv_aload_n Γ.1.1 Γ.1.2.1 dX12_isName_0 rfl (lv_at hl 0 rfl) ?_
  refine get_X12_kind Γ hI gw_226 dX12_isName_1 ?_
  refine lv_iconst (v := (2 : Int32)) Γ.1.1 Γ.1.2.1 dX12_isName_4 (by decide) ?_
  refine lv_icmp_ne (tgt := 26) Γ.1.1 Γ.1.2.1 dX12_isName_5 (by decide) (fun c_1 => ?_) (fun c_1 => ?_)
  · replace h := ite_neg c_1 h; clear c_1
    refine lv_iconst (v := (0 : Int32)) Γ.1.1 Γ.1.2.1 dX12_isName_26 (by decide) ?_
    exact g_zret Γ hI dX12_isName_27 rfl (Option.some.inj h)
  · replace h := ite_pos c_1 h; clear c_1
    refine lv_aload_n Γ.1.1 Γ.1.2.1 dX12_isName_8 rfl (lv_at hl 0 rfl) ?_
    obtain ⟨r_2, hr_2, h⟩ := ob_some h
    refine g_ci Γ hI (g_runV (As := []) Γ hI (S_X12_isPointWord l X σ r_2 hr_2) mf_X12_isPointWord (recv_X12 Γ hI) gw_228 rfl rfl ⟨Nat.le_of_ble_eq_true rfl, Nat.le_of_ble_eq_true rfl⟩ rfl hl.1 rfl (Nat.le_of_ble_eq_true rfl) dX12_isName_9 ⟨Nat.zero_le _, Nat.zero_le _⟩) (fun H locs hI => ?_)
    clear hr_2
    refine lv_if_ne (tgt := 26) Γ.1.1 Γ.1.2.1 dX12_isName_12 (by decide) (fun c_4 => ?_) (fun c_4 => ?_)
    · replace h := ite_neg c_4 h; clear c_4
      refine lv_iconst (v := (0 : Int32)) Γ.1.1 Γ.1.2.1 dX12_isName_26 (by decide) ?_
      exact g_zret Γ hI dX12_isName_27 rfl (Option.some.inj h)
    · replace h := ite_pos c_4 h; clear c_4
      refine lv_aload_n Γ.1.1 Γ.1.2.1 dX12_isName_15 rfl (lv_at hl 0 rfl) ?_
      obtain ⟨r_5, hr_5, h⟩ := ob_some h
      refine g_ci Γ hI (g_runV (As := []) Γ hI (S_X12_isLineWord l X σ r_5 hr_5) mf_X12_isLineWord (recv_X12 Γ hI) gw_229 rfl rfl ⟨Nat.le_of_ble_eq_true rfl, Nat.le_of_ble_eq_true rfl⟩ rfl hl.1 rfl (Nat.le_of_ble_eq_true rfl) dX12_isName_16 ⟨Nat.zero_le _, Nat.zero_le _⟩) (fun H locs hI => ?_)
      clear hr_5
      refine lv_if_ne (tgt := 26) Γ.1.1 Γ.1.2.1 dX12_isName_19 (by decide) (fun c_7 => ?_) (fun c_7 => ?_)
      · replace h := ite_neg c_7 h; clear c_7
        refine lv_iconst (v := (0 : Int32)) Γ.1.1 Γ.1.2.1 dX12_isName_26 (by decide) ?_
        exact g_zret Γ hI dX12_isName_27 rfl (Option.some.inj h)
      · replace h := ite_pos c_7 h; clear c_7
        refine lv_iconst (v := (1 : Int32)) Γ.1.1 Γ.1.2.1 dX12_isName_22 (by decide) ?_
        refine lv_goto (tgt := 27) Γ.1.1 Γ.1.2.1 dX12_isName_23 (by decide) ?_
        exact g_zret Γ hI dX12_isName_27 rfl (Option.some.inj h)
set_option maxRecDepth 20000 in
set_option maxHeartbeats 4000000 in
theorem s_X12_bad_L14 {p : Program} {l : Launch} {e : Env} {s : State} {m : MethodId} {args : Array Value} {below : List Frame} {meth : Method} {c : Code} {X : GX} (σr : GM) (x : Int32) (Γ : gC X p m meth c cX12_bad 2 s args RX12 (some .boolean)) :
    ∀ (σ : GM) (s1 : Int32) (H : Heap) (locs : List Loc) (ls : Array Slot), gI X σ s H locs → lv_has ls 2 [(0, .ref (X.2.1 + 60))] → f_X12_bad_L14 σ s1 = some (σr, x) →
    W p l e ({ frames := 0, cells := 0, slots := 0, locals := 0 } : Room) s m args below meth c H locs 0 0 (MQ below (gQi X σr x) args s 0 0 (gA X)) (F0 m 14 ls [.int s1, .ref (X.2.1 + 60)]) := by
  intro σ s1 H locs ls hI hl h
  unfold f_X12_bad_L14 at h
  refine put_X12_fault Γ hI gw_230 dX12_bad_14 (fun H locs hI => ?_)
  obtain ⟨σ_2, e_m_2, h⟩ := nm_some h
  rw [← e_m_2] at hI; clear e_m_2
  refine lv_aload_n Γ.1.1 Γ.1.2.1 dX12_bad_17 rfl (lv_at hl 0 rfl) ?_
  refine lv_aload_n Γ.1.1 Γ.1.2.1 dX12_bad_18 rfl (lv_at hl 0 rfl) ?_
  refine get_X12_from Γ hI gw_218 dX12_bad_19 ?_
  refine put_X12_place Γ hI gw_231 dX12_bad_22 (fun H locs hI => ?_)
  obtain ⟨σ_3, e_m_3, h⟩ := nm_some h
  rw [← e_m_3] at hI; clear e_m_3
  refine lv_iconst (v := (0 : Int32)) Γ.1.1 Γ.1.2.1 dX12_bad_25 (by decide) ?_
  exact g_zret Γ hI dX12_bad_26 (Prod.mk.inj (Option.some.inj h)).1 (Prod.mk.inj (Option.some.inj h)).2
set_option maxRecDepth 20000 in
set_option maxHeartbeats 4000000 in
theorem S_X12_bad (l : Launch) (X : GX) (σ : GM) (v1 : Int32) (σr : GM) (x : Int32) (h : f_X12_bad σ v1 = some (σr, x)) : gMet l yX12_bad cX12_bad 2 (some .boolean) ({ frames := 0, cells := 0, slots := 0, locals := 0 } : Room) X σ [.ref (X.2.1 + 60), .int v1] (gQi X σr x) := by
  unfold f_X12_bad at h
  refine gMet_of (lv := [(0, .ref (X.2.1 + 60)), (1, .int v1)]) (by decide) rfl (Nat.le_of_ble_eq_true rfl) rfl (fun p e s m below meth c H ls Γ hI hl => ?_)
  refine lv_aload_n Γ.1.1 Γ.1.2.1 dX12_bad_0 rfl (lv_at hl 0 rfl) ?_
  refine lv_aload_n Γ.1.1 Γ.1.2.1 dX12_bad_1 rfl (lv_at hl 0 rfl) ?_
  refine get_X12_kind Γ hI gw_226 dX12_bad_2 ?_
  refine lv_iconst (v := (1 : Int32)) Γ.1.1 Γ.1.2.1 dX12_bad_5 (by decide) ?_
  refine lv_icmp_ne (tgt := 13) Γ.1.1 Γ.1.2.1 dX12_bad_6 (by decide) (fun c_1 => ?_) (fun c_1 => ?_)
  · replace h := ite_neg c_1 h; clear c_1
    refine lv_iload_n Γ.1.1 Γ.1.2.1 dX12_bad_13 rfl (lv_at hl 1 rfl) ?_
    exact s_X12_bad_L14 σr x Γ σ v1 _ _ _ hI (lv_sub hl [0] rfl) h
  · replace h := ite_pos c_1 h; clear c_1
    refine lv_iconst (v := (1 : Int32)) Γ.1.1 Γ.1.2.1 dX12_bad_9 (by decide) ?_
    refine lv_goto (tgt := 14) Γ.1.1 Γ.1.2.1 dX12_bad_10 (by decide) ?_
    exact s_X12_bad_L14 σr x Γ σ (1 : Int32) _ _ _ hI (lv_sub hl [0] rfl) h
set_option maxRecDepth 20000 in
set_option maxHeartbeats 4000000 in
theorem s_X12_copy_L3 {p : Program} {l : Launch} {e : Env} {s : State} {m : MethodId} {args : Array Value} {below : List Frame} {meth : Method} {c : Code} {X : GX} (qa : Nat) (qb : Nat) (hqa : sh qa = (11, (sh qa).2)) (hqb : sh qb = (11, (sh qb).2)) (σr : GM) (Γ : gC X p m meth c cX12_copy 5 s args RX12 none) (v1 : Int32) (v3 : Int32) :
    ∀ (k : Nat) (σ : GM) (v4 : Int32) (H : Heap) (locs : List Loc) (ls : Array Slot), gI X σ s H locs → lv_has ls 5 [(0, .ref (X.2.1 + qa)), (1, .int v1), (2, .ref (X.2.1 + qb)), (3, .int v3), (4, .int v4)] → f_X12_copy_L3 qa qb v1 v3 k σ v4 = some σr →
    W p l e ({ frames := 0, cells := 0, slots := 0, locals := 0 } : Room) s m args below meth c H locs 0 0 (MQ below (gQv X σr) args s 0 0 (gA X)) (F0 m 3 ls []) := by
  intro k
  induction k with
  | zero =>
    intro σ v4 H locs ls hI hl h
    exact absurd h (by simp [f_X12_copy_L3])
  | succ k ih =>
    intro σ v4 H locs ls hI hl h
    unfold f_X12_copy_L3 at h
    refine lv_iload Γ.1.1 Γ.1.2.1 dX12_copy_3 (lv_at hl 4 rfl) ?_
    refine lv_sipush (v := (159 : Int32)) Γ.1.1 Γ.1.2.1 dX12_copy_5 (by decide) ?_
    refine lv_icmp_ge (tgt := 29) Γ.1.1 Γ.1.2.1 dX12_copy_8 (by decide) (fun c_1 => ?_) (fun c_1 => ?_)
    · replace h := ite_pos c_1 h; clear c_1
      exact g_vret Γ hI dX12_copy_29 (Option.some.inj h)
    · replace h := ite_neg c_1 h; clear c_1
      refine lv_aload_n Γ.1.1 Γ.1.2.1 dX12_copy_11 rfl (lv_at hl 2 rfl) ?_
      refine lv_iload_n Γ.1.1 Γ.1.2.1 dX12_copy_12 rfl (lv_at hl 3 rfl) ?_
      refine lv_iload Γ.1.1 Γ.1.2.1 dX12_copy_13 (lv_at hl 4 rfl) ?_
      refine lv_iadd Γ.1.1 Γ.1.2.1 dX12_copy_15 ?_
      refine lv_aload_n Γ.1.1 Γ.1.2.1 dX12_copy_16 rfl (lv_at hl 0 rfl) ?_
      refine lv_iload_n Γ.1.1 Γ.1.2.1 dX12_copy_17 rfl (lv_at hl 1 rfl) ?_
      refine lv_iload Γ.1.1 Γ.1.2.1 dX12_copy_18 (lv_at hl 4 rfl) ?_
      refine lv_iadd Γ.1.1 Γ.1.2.1 dX12_copy_20 ?_
      refine lv_topi (fun i_2 e_i_2 => ?_)
      replace h := nm_at e_i_2 h; clear e_i_2
      obtain ⟨hb_3, h⟩ := bnd_some h
      refine g_iald Γ hI hqa hb_3 dX12_copy_21 ?_
      obtain ⟨hb_4, h⟩ := bnd_some h
      refine g_iast Γ hI hqb hb_4 dX12_copy_22 (fun H locs hI => ?_)
      obtain ⟨σ_5, e_m_5, h⟩ := nm_some h
      rw [← e_m_5] at hI; clear e_m_5
      obtain ⟨v4_6, e_v4_6, h⟩ := nm_some h
      refine lv_iinc (v := v4_6) (lv' := [(4, .int v4_6), (0, .ref (X.2.1 + qa)), (1, .int v1), (2, .ref (X.2.1 + qb)), (3, .int v3)]) Γ.1.1 Γ.1.2.1 dX12_copy_23 hl (k := 4) rfl (by rw [e_v4_6]; rfl) (by decide) rfl (fun ls hl => ?_)
      clear e_v4_6
      refine lv_goto (tgt := 3) Γ.1.1 Γ.1.2.1 dX12_copy_26 (by decide) ?_
      exact ih σ_5 v4_6 _ _ _ hI (lv_sub hl [1, 2, 3, 4, 0] rfl) h
set_option maxRecDepth 20000 in
set_option maxHeartbeats 4000000 in
theorem S_X12_copy (l : Launch) (X : GX) (σ : GM) (qa : Nat) (qb : Nat) (hqa : sh qa = (11, (sh qa).2)) (hqb : sh qb = (11, (sh qb).2)) (v1 : Int32) (v3 : Int32) (σr : GM) (h : f_X12_copy σ qa qb v1 v3 = some σr) : gMet l yX12_copy cX12_copy 5 none ({ frames := 0, cells := 0, slots := 0, locals := 0 } : Room) X σ [.ref (X.2.1 + qa), .int v1, .ref (X.2.1 + qb), .int v3] (gQv X σr) := by
  unfold f_X12_copy at h
  refine gMet_of (lv := [(0, .ref (X.2.1 + qa)), (1, .int v1), (2, .ref (X.2.1 + qb)), (3, .int v3)]) (by decide) rfl (Nat.le_of_ble_eq_true rfl) rfl (fun p e s m below meth c H ls Γ hI hl => ?_)
  refine lv_iconst (v := (0 : Int32)) Γ.1.1 Γ.1.2.1 dX12_copy_0 (by decide) ?_
  refine lv_istore (lv' := [(4, .int (0 : Int32)), (0, .ref (X.2.1 + qa)), (1, .int v1), (2, .ref (X.2.1 + qb)), (3, .int v3)]) Γ.1.1 Γ.1.2.1 dX12_copy_1 hl (by decide) rfl (fun ls hl => ?_)
  exact s_X12_copy_L3 qa qb hqa hqb σr Γ v1 v3 _ σ (0 : Int32) _ _ _ hI (lv_sub hl [1, 2, 3, 4, 0] rfl) h
set_option maxRecDepth 20000 in
set_option maxHeartbeats 4000000 in
theorem S_X12_between (l : Launch) (X : GX) (σ : GM) (qa : Nat) (hqa : sh qa = (11, 159)) (v1 : Int32) (v2 : Int32) (x : Int32) (h : f_X12_between σ qa v1 v2 = some x) : gMet l yX12_between cX12_between 3 (some .int) ({ frames := 0, cells := 0, slots := 0, locals := 0 } : Room) X σ [.ref (X.2.1 + qa), .int v1, .int v2] (gQi X σ x) := by
  unfold f_X12_between at h
  refine gMet_of (lv := [(0, .ref (X.2.1 + qa)), (1, .int v1), (2, .int v2)]) (by decide) rfl (Nat.le_of_ble_eq_true rfl) rfl (fun p e s m below meth c H ls Γ hI hl => ?_)
  refine lv_aload_n Γ.1.1 Γ.1.2.1 dX12_between_0 rfl (lv_at hl 0 rfl) ?_
  refine lv_bipush (v := (15 : Int32)) Γ.1.1 Γ.1.2.1 dX12_between_1 (by decide) ?_
  refine lv_bipush (v := (12 : Int32)) Γ.1.1 Γ.1.2.1 dX12_between_3 (by decide) ?_
  refine lv_iload_n Γ.1.1 Γ.1.2.1 dX12_between_5 rfl (lv_at hl 1 rfl) ?_
  refine lv_imul Γ.1.1 Γ.1.2.1 dX12_between_6 ?_
  refine lv_iadd Γ.1.1 Γ.1.2.1 dX12_between_7 ?_
  refine lv_iload_n Γ.1.1 Γ.1.2.1 dX12_between_8 rfl (lv_at hl 2 rfl) ?_
  refine lv_iadd Γ.1.1 Γ.1.2.1 dX12_between_9 ?_
  refine lv_topi (fun i_1 e_i_1 => ?_)
  replace h := nm_at e_i_1 h; clear e_i_1
  obtain ⟨hb_2, h⟩ := bnd_some h
  refine g_iald Γ hI hqa hb_2 dX12_between_10 ?_
  exact g_iret Γ hI dX12_between_11 rfl (Option.some.inj h)
set_option maxRecDepth 20000 in
set_option maxHeartbeats 4000000 in
theorem S_X12_adds (l : Launch) (X : GX) (σ : GM) (qa : Nat) (hqa : sh qa = (11, 159)) (v1 : Int32) (v2 : Int32) (v3 : Int32) (σr : GM) (h : f_X12_adds σ qa v1 v2 v3 = some σr) : gMet l yX12_adds cX12_adds 4 none ({ frames := 0, cells := 0, slots := 0, locals := 0 } : Room) X σ [.ref (X.2.1 + qa), .int v1, .int v2, .int v3] (gQv X σr) := by
  unfold f_X12_adds at h
  refine gMet_of (lv := [(0, .ref (X.2.1 + qa)), (1, .int v1), (2, .int v2), (3, .int v3)]) (by decide) rfl (Nat.le_of_ble_eq_true rfl) rfl (fun p e s m below meth c H ls Γ hI hl => ?_)
  refine lv_aload_n Γ.1.1 Γ.1.2.1 dX12_adds_0 rfl (lv_at hl 0 rfl) ?_
  refine lv_bipush (v := (15 : Int32)) Γ.1.1 Γ.1.2.1 dX12_adds_1 (by decide) ?_
  refine lv_bipush (v := (12 : Int32)) Γ.1.1 Γ.1.2.1 dX12_adds_3 (by decide) ?_
  refine lv_iload_n Γ.1.1 Γ.1.2.1 dX12_adds_5 rfl (lv_at hl 1 rfl) ?_
  refine lv_imul Γ.1.1 Γ.1.2.1 dX12_adds_6 ?_
  refine lv_iadd Γ.1.1 Γ.1.2.1 dX12_adds_7 ?_
  refine lv_iload_n Γ.1.1 Γ.1.2.1 dX12_adds_8 rfl (lv_at hl 2 rfl) ?_
  refine lv_iadd Γ.1.1 Γ.1.2.1 dX12_adds_9 ?_
  refine lv_dup2_11 Γ.1.1 Γ.1.2.1 dX12_adds_10 rfl rfl ?_
  refine lv_topi (fun i_1 e_i_1 => ?_)
  replace h := nm_at e_i_1 h; clear e_i_1
  obtain ⟨hb_2, h⟩ := bnd_some h
  refine g_iald Γ hI hqa hb_2 dX12_adds_11 ?_
  refine lv_iload_n Γ.1.1 Γ.1.2.1 dX12_adds_12 rfl (lv_at hl 3 rfl) ?_
  refine lv_iadd Γ.1.1 Γ.1.2.1 dX12_adds_13 ?_
  obtain ⟨hb_3, h⟩ := bnd_some h
  refine g_iast Γ hI hqa hb_3 dX12_adds_14 (fun H locs hI => ?_)
  obtain ⟨σ_4, e_m_4, h⟩ := nm_some h
  rw [← e_m_4] at hI; clear e_m_4
  refine lv_iload_n Γ.1.1 Γ.1.2.1 dX12_adds_15 rfl (lv_at hl 1 rfl) ?_
  refine lv_iload_n Γ.1.1 Γ.1.2.1 dX12_adds_16 rfl (lv_at hl 2 rfl) ?_
  refine lv_icmp_eq (tgt := 35) Γ.1.1 Γ.1.2.1 dX12_adds_17 (by decide) (fun c_5 => ?_) (fun c_5 => ?_)
  · replace h := ite_pos c_5 h; clear c_5
    exact g_vret Γ hI dX12_adds_35 (Option.some.inj h)
  · replace h := ite_neg c_5 h; clear c_5
    refine lv_aload_n Γ.1.1 Γ.1.2.1 dX12_adds_20 rfl (lv_at hl 0 rfl) ?_
    refine lv_bipush (v := (15 : Int32)) Γ.1.1 Γ.1.2.1 dX12_adds_21 (by decide) ?_
    refine lv_bipush (v := (12 : Int32)) Γ.1.1 Γ.1.2.1 dX12_adds_23 (by decide) ?_
    refine lv_iload_n Γ.1.1 Γ.1.2.1 dX12_adds_25 rfl (lv_at hl 2 rfl) ?_
    refine lv_imul Γ.1.1 Γ.1.2.1 dX12_adds_26 ?_
    refine lv_iadd Γ.1.1 Γ.1.2.1 dX12_adds_27 ?_
    refine lv_iload_n Γ.1.1 Γ.1.2.1 dX12_adds_28 rfl (lv_at hl 1 rfl) ?_
    refine lv_iadd Γ.1.1 Γ.1.2.1 dX12_adds_29 ?_
    refine lv_dup2_11 Γ.1.1 Γ.1.2.1 dX12_adds_30 rfl rfl ?_
    refine lv_topi (fun i_6 e_i_6 => ?_)
    replace h := nm_at e_i_6 h; clear e_i_6
    obtain ⟨hb_7, h⟩ := bnd_some h
    refine g_iald Γ hI hqa hb_7 dX12_adds_31 ?_
    refine lv_iload_n Γ.1.1 Γ.1.2.1 dX12_adds_32 rfl (lv_at hl 3 rfl) ?_
    refine lv_iadd Γ.1.1 Γ.1.2.1 dX12_adds_33 ?_
    obtain ⟨hb_8, h⟩ := bnd_some h
    refine g_iast Γ hI hqa hb_8 dX12_adds_34 (fun H locs hI => ?_)
    obtain ⟨σ_9, e_m_9, h⟩ := nm_some h
    rw [← e_m_9] at hI; clear e_m_9
    exact g_vret Γ hI dX12_adds_35 (Option.some.inj h)
set_option maxRecDepth 20000 in
set_option maxHeartbeats 4000000 in
theorem s_X12_ends_L5 {p : Program} {l : Launch} {e : Env} {s : State} {m : MethodId} {args : Array Value} {below : List Frame} {meth : Method} {c : Code} {X : GX} (σ : GM) (qa : Nat) (hqa : sh qa = (11, 159)) (x : Int32) (Γ : gC X p m meth c cX12_ends 5 s args RX12 (some .int)) (v1 : Int32) (v2 : Int32) :
    ∀ (k : Nat) (v3 : Int32) (v4 : Int32) (H : Heap) (locs : List Loc) (ls : Array Slot), gI X σ s H locs → lv_has ls 5 [(0, .ref (X.2.1 + qa)), (1, .int v1), (2, .int v2), (3, .int v3), (4, .int v4)] → f_X12_ends_L5 σ qa v1 v2 k v3 v4 = some x →
    W p l e ({ frames := 1, cells := 0, slots := 0, locals := 22 } : Room) s m args below meth c H locs 0 0 (MQ below (gQi X σ x) args s 0 0 (gA X)) (F0 m 5 ls []) := by
  intro k
  induction k with
  | zero =>
    intro v3 v4 H locs ls hI hl h
    exact absurd h (by simp [f_X12_ends_L5])
  | succ k ih =>
    intro v3 v4 H locs ls hI hl h
    unfold f_X12_ends_L5 at h
    refine lv_iload Γ.1.1 Γ.1.2.1 dX12_ends_5 (lv_at hl 4 rfl) ?_
    refine lv_bipush (v := (12 : Int32)) Γ.1.1 Γ.1.2.1 dX12_ends_7 (by decide) ?_
    refine lv_icmp_ge (tgt := 49) Γ.1.1 Γ.1.2.1 dX12_ends_9 (by decide) (fun c_1 => ?_) (fun c_1 => ?_)
    · replace h := ite_pos c_1 h; clear c_1
      refine lv_iload_n Γ.1.1 Γ.1.2.1 dX12_ends_49 rfl (lv_at hl 3 rfl) ?_
      exact g_iret Γ hI dX12_ends_50 rfl (Option.some.inj h)
    · replace h := ite_neg c_1 h; clear c_1
      refine lv_iload_n Γ.1.1 Γ.1.2.1 dX12_ends_12 rfl (lv_at hl 2 rfl) ?_
      refine lv_iload Γ.1.1 Γ.1.2.1 dX12_ends_13 (lv_at hl 4 rfl) ?_
      obtain ⟨r_2, hr_2, h⟩ := ob_some h
      refine g_ci Γ hI (g_runS (As := [.int v2, .int v4]) Γ hI (S_X12_has l X σ v2 v4 r_2 hr_2) mf_X12_has gw_212 rfl rfl ⟨Nat.le_of_ble_eq_true rfl, Nat.le_of_ble_eq_true rfl⟩ rfl hl.1 rfl (Nat.le_of_ble_eq_true rfl) dX12_ends_15 ⟨Nat.zero_le _, Nat.zero_le _⟩) (fun H locs hI => ?_)
      clear hr_2
      refine lv_if_eq (tgt := 43) Γ.1.1 Γ.1.2.1 dX12_ends_18 (by decide) (fun c_4 => ?_) (fun c_4 => ?_)
      · replace h := ite_pos c_4 h; clear c_4
        obtain ⟨v4_5, e_v4_5, h⟩ := nm_some h
        refine lv_iinc (v := v4_5) (lv' := [(4, .int v4_5), (0, .ref (X.2.1 + qa)), (1, .int v1), (2, .int v2), (3, .int v3)]) Γ.1.1 Γ.1.2.1 dX12_ends_43 hl (k := 4) rfl (by rw [e_v4_5]; rfl) (by decide) rfl (fun ls hl => ?_)
        clear e_v4_5
        refine lv_goto (tgt := 5) Γ.1.1 Γ.1.2.1 dX12_ends_46 (by decide) ?_
        exact ih v3 v4_5 _ _ _ hI (lv_sub hl [1, 2, 3, 4, 0] rfl) h
      · replace h := ite_neg c_4 h; clear c_4
        refine lv_iload_n Γ.1.1 Γ.1.2.1 dX12_ends_21 rfl (lv_at hl 3 rfl) ?_
        refine lv_aload_n Γ.1.1 Γ.1.2.1 dX12_ends_22 rfl (lv_at hl 0 rfl) ?_
        refine lv_iload_n Γ.1.1 Γ.1.2.1 dX12_ends_23 rfl (lv_at hl 1 rfl) ?_
        refine lv_iload Γ.1.1 Γ.1.2.1 dX12_ends_24 (lv_at hl 4 rfl) ?_
        obtain ⟨r_6, hr_6, h⟩ := ob_some h
        refine g_ci Γ hI (g_runS (As := [.ref (X.2.1 + qa), .int v1, .int v4]) Γ hI (S_X12_between l X σ qa hqa v1 v4 r_6 hr_6) mf_X12_between gw_232 rfl rfl ⟨Nat.le_of_ble_eq_true rfl, Nat.le_of_ble_eq_true rfl⟩ rfl hl.1 rfl (Nat.le_of_ble_eq_true rfl) dX12_ends_26 ⟨Nat.zero_le _, Nat.zero_le _⟩) (fun H locs hI => ?_)
        clear hr_6
        refine lv_iload_n Γ.1.1 Γ.1.2.1 dX12_ends_29 rfl (lv_at hl 1 rfl) ?_
        refine lv_iload Γ.1.1 Γ.1.2.1 dX12_ends_30 (lv_at hl 4 rfl) ?_
        refine lv_icmp_ne (tgt := 39) Γ.1.1 Γ.1.2.1 dX12_ends_32 (by decide) (fun c_8 => ?_) (fun c_8 => ?_)
        · replace h := ite_neg c_8 h; clear c_8
          refine lv_iconst (v := (1 : Int32)) Γ.1.1 Γ.1.2.1 dX12_ends_39 (by decide) ?_
          refine lv_imul Γ.1.1 Γ.1.2.1 dX12_ends_40 ?_
          refine lv_iadd Γ.1.1 Γ.1.2.1 dX12_ends_41 ?_
          refine lv_topi (fun v3_9 e_v3_9 => ?_)
          replace h := nm_at e_v3_9 h; clear e_v3_9
          refine lv_istore_n (lv' := [(3, .int v3_9), (0, .ref (X.2.1 + qa)), (1, .int v1), (2, .int v2), (4, .int v4)]) Γ.1.1 Γ.1.2.1 dX12_ends_42 rfl hl (by decide) rfl (fun ls hl => ?_)
          obtain ⟨v4_10, e_v4_10, h⟩ := nm_some h
          refine lv_iinc (v := v4_10) (lv' := [(4, .int v4_10), (3, .int v3_9), (0, .ref (X.2.1 + qa)), (1, .int v1), (2, .int v2)]) Γ.1.1 Γ.1.2.1 dX12_ends_43 hl (k := 4) rfl (by rw [e_v4_10]; rfl) (by decide) rfl (fun ls hl => ?_)
          clear e_v4_10
          refine lv_goto (tgt := 5) Γ.1.1 Γ.1.2.1 dX12_ends_46 (by decide) ?_
          exact ih v3_9 v4_10 _ _ _ hI (lv_sub hl [2, 3, 4, 1, 0] rfl) h
        · replace h := ite_pos c_8 h; clear c_8
          refine lv_iconst (v := (2 : Int32)) Γ.1.1 Γ.1.2.1 dX12_ends_35 (by decide) ?_
          refine lv_goto (tgt := 40) Γ.1.1 Γ.1.2.1 dX12_ends_36 (by decide) ?_
          refine lv_imul Γ.1.1 Γ.1.2.1 dX12_ends_40 ?_
          refine lv_iadd Γ.1.1 Γ.1.2.1 dX12_ends_41 ?_
          refine lv_topi (fun v3_11 e_v3_11 => ?_)
          replace h := nm_at e_v3_11 h; clear e_v3_11
          refine lv_istore_n (lv' := [(3, .int v3_11), (0, .ref (X.2.1 + qa)), (1, .int v1), (2, .int v2), (4, .int v4)]) Γ.1.1 Γ.1.2.1 dX12_ends_42 rfl hl (by decide) rfl (fun ls hl => ?_)
          obtain ⟨v4_12, e_v4_12, h⟩ := nm_some h
          refine lv_iinc (v := v4_12) (lv' := [(4, .int v4_12), (3, .int v3_11), (0, .ref (X.2.1 + qa)), (1, .int v1), (2, .int v2)]) Γ.1.1 Γ.1.2.1 dX12_ends_43 hl (k := 4) rfl (by rw [e_v4_12]; rfl) (by decide) rfl (fun ls hl => ?_)
          clear e_v4_12
          refine lv_goto (tgt := 5) Γ.1.1 Γ.1.2.1 dX12_ends_46 (by decide) ?_
          exact ih v3_11 v4_12 _ _ _ hI (lv_sub hl [2, 3, 4, 1, 0] rfl) h
set_option maxRecDepth 20000 in
set_option maxHeartbeats 4000000 in
theorem S_X12_ends (l : Launch) (X : GX) (σ : GM) (qa : Nat) (hqa : sh qa = (11, 159)) (v1 : Int32) (v2 : Int32) (x : Int32) (h : f_X12_ends σ qa v1 v2 = some x) : gMet l yX12_ends cX12_ends 5 (some .int) ({ frames := 1, cells := 0, slots := 0, locals := 22 } : Room) X σ [.ref (X.2.1 + qa), .int v1, .int v2] (gQi X σ x) := by
  unfold f_X12_ends at h
  refine gMet_of (lv := [(0, .ref (X.2.1 + qa)), (1, .int v1), (2, .int v2)]) (by decide) rfl (Nat.le_of_ble_eq_true rfl) rfl (fun p e s m below meth c H ls Γ hI hl => ?_)
  refine lv_iconst (v := (0 : Int32)) Γ.1.1 Γ.1.2.1 dX12_ends_0 (by decide) ?_
  refine lv_istore_n (lv' := [(3, .int (0 : Int32)), (0, .ref (X.2.1 + qa)), (1, .int v1), (2, .int v2)]) Γ.1.1 Γ.1.2.1 dX12_ends_1 rfl hl (by decide) rfl (fun ls hl => ?_)
  refine lv_iconst (v := (0 : Int32)) Γ.1.1 Γ.1.2.1 dX12_ends_2 (by decide) ?_
  refine lv_istore (lv' := [(4, .int (0 : Int32)), (3, .int (0 : Int32)), (0, .ref (X.2.1 + qa)), (1, .int v1), (2, .int v2)]) Γ.1.1 Γ.1.2.1 dX12_ends_3 hl (by decide) rfl (fun ls hl => ?_)
  exact s_X12_ends_L5 σ qa hqa x Γ v1 v2 _ (0 : Int32) (0 : Int32) _ _ _ hI (lv_sub hl [2, 3, 4, 1, 0] rfl) h
set_option maxRecDepth 20000 in
set_option maxHeartbeats 4000000 in
theorem S_X12_allEnds (l : Launch) (X : GX) (σ : GM) (qa : Nat) (hqa : sh qa = (11, 159)) (v1 : Int32) (x : Int32) (h : f_X12_allEnds σ qa v1 = some x) : gMet l yX12_allEnds cX12_allEnds 2 (some .int) ({ frames := 2, cells := 0, slots := 0, locals := 46 } : Room) X σ [.ref (X.2.1 + qa), .int v1] (gQi X σ x) := by
  unfold f_X12_allEnds at h
  refine gMet_of (lv := [(0, .ref (X.2.1 + qa)), (1, .int v1)]) (by decide) rfl (Nat.le_of_ble_eq_true rfl) rfl (fun p e s m below meth c H ls Γ hI hl => ?_)
  refine lv_aload_n Γ.1.1 Γ.1.2.1 dX12_allEnds_0 rfl (lv_at hl 0 rfl) ?_
  refine lv_iload_n Γ.1.1 Γ.1.2.1 dX12_allEnds_1 rfl (lv_at hl 1 rfl) ?_
  refine lv_sipush (v := (4095 : Int32)) Γ.1.1 Γ.1.2.1 dX12_allEnds_2 (by decide) ?_
  obtain ⟨r_1, hr_1, h⟩ := ob_some h
  refine g_ci Γ hI (g_runS (As := [.ref (X.2.1 + qa), .int v1, .int (4095 : Int32)]) Γ hI (S_X12_ends l X σ qa hqa v1 (4095 : Int32) r_1 hr_1) mf_X12_ends gw_233 rfl rfl ⟨Nat.le_of_ble_eq_true rfl, Nat.le_of_ble_eq_true rfl⟩ rfl hl.1 rfl (Nat.le_of_ble_eq_true rfl) dX12_allEnds_5 ⟨Nat.zero_le _, Nat.zero_le _⟩) (fun H locs hI => ?_)
  clear hr_1
  exact g_iret Γ hI dX12_allEnds_8 rfl (Option.some.inj h)
set_option maxRecDepth 20000 in
set_option maxHeartbeats 4000000 in
theorem s_X12_lineMany_L4 {p : Program} {l : Launch} {e : Env} {s : State} {m : MethodId} {args : Array Value} {below : List Frame} {meth : Method} {c : Code} {X : GX} (σ : GM) (qa : Nat) (hqa : sh qa = (11, 159)) (x : Int32) (Γ : gC X p m meth c cX12_lineMany 4 s args RX12 (some .int)) (v1 : Int32) :
    ∀ (k : Nat) (v2 : Int32) (v3 : Int32) (H : Heap) (locs : List Loc) (ls : Array Slot), gI X σ s H locs → lv_has ls 4 [(0, .ref (X.2.1 + qa)), (1, .int v1), (2, .int v2), (3, .int v3)] → f_X12_lineMany_L4 σ qa v1 k v2 v3 = some x →
    W p l e ({ frames := 2, cells := 0, slots := 0, locals := 46 } : Room) s m args below meth c H locs 0 0 (MQ below (gQi X σ x) args s 0 0 (gA X)) (F0 m 4 ls []) := by
  intro k
  induction k with
  | zero =>
    intro v2 v3 H locs ls hI hl h
    exact absurd h (by simp [f_X12_lineMany_L4])
  | succ k ih =>
    intro v2 v3 H locs ls hI hl h
    unfold f_X12_lineMany_L4 at h
    refine lv_iload_n Γ.1.1 Γ.1.2.1 dX12_lineMany_4 rfl (lv_at hl 3 rfl) ?_
    refine lv_bipush (v := (12 : Int32)) Γ.1.1 Γ.1.2.1 dX12_lineMany_5 (by decide) ?_
    refine lv_icmp_ge (tgt := 33) Γ.1.1 Γ.1.2.1 dX12_lineMany_7 (by decide) (fun c_1 => ?_) (fun c_1 => ?_)
    · replace h := ite_pos c_1 h; clear c_1
      refine lv_iload_n Γ.1.1 Γ.1.2.1 dX12_lineMany_33 rfl (lv_at hl 2 rfl) ?_
      refine lv_iconst (v := (2 : Int32)) Γ.1.1 Γ.1.2.1 dX12_lineMany_34 (by decide) ?_
      obtain ⟨hz_2, h⟩ := nz_some h
      refine lv_idiv Γ.1.1 Γ.1.2.1 dX12_lineMany_35 hz_2 ?_
      exact g_iret Γ hI dX12_lineMany_36 rfl (Option.some.inj h)
    · replace h := ite_neg c_1 h; clear c_1
      refine lv_iload_n Γ.1.1 Γ.1.2.1 dX12_lineMany_10 rfl (lv_at hl 1 rfl) ?_
      refine lv_iload_n Γ.1.1 Γ.1.2.1 dX12_lineMany_11 rfl (lv_at hl 3 rfl) ?_
      obtain ⟨r_3, hr_3, h⟩ := ob_some h
      refine g_ci Γ hI (g_runS (As := [.int v1, .int v3]) Γ hI (S_X12_has l X σ v1 v3 r_3 hr_3) mf_X12_has gw_212 rfl rfl ⟨Nat.le_of_ble_eq_true rfl, Nat.le_of_ble_eq_true rfl⟩ rfl hl.1 rfl (Nat.le_of_ble_eq_true rfl) dX12_lineMany_12 ⟨Nat.zero_le _, Nat.zero_le _⟩) (fun H locs hI => ?_)
      clear hr_3
      refine lv_if_eq (tgt := 27) Γ.1.1 Γ.1.2.1 dX12_lineMany_15 (by decide) (fun c_5 => ?_) (fun c_5 => ?_)
      · replace h := ite_pos c_5 h; clear c_5
        obtain ⟨v3_6, e_v3_6, h⟩ := nm_some h
        refine lv_iinc (v := v3_6) (lv' := [(3, .int v3_6), (0, .ref (X.2.1 + qa)), (1, .int v1), (2, .int v2)]) Γ.1.1 Γ.1.2.1 dX12_lineMany_27 hl (k := 3) rfl (by rw [e_v3_6]; rfl) (by decide) rfl (fun ls hl => ?_)
        clear e_v3_6
        refine lv_goto (tgt := 4) Γ.1.1 Γ.1.2.1 dX12_lineMany_30 (by decide) ?_
        exact ih v2 v3_6 _ _ _ hI (lv_sub hl [1, 2, 3, 0] rfl) h
      · replace h := ite_neg c_5 h; clear c_5
        refine lv_iload_n Γ.1.1 Γ.1.2.1 dX12_lineMany_18 rfl (lv_at hl 2 rfl) ?_
        refine lv_aload_n Γ.1.1 Γ.1.2.1 dX12_lineMany_19 rfl (lv_at hl 0 rfl) ?_
        refine lv_iload_n Γ.1.1 Γ.1.2.1 dX12_lineMany_20 rfl (lv_at hl 3 rfl) ?_
        refine lv_iload_n Γ.1.1 Γ.1.2.1 dX12_lineMany_21 rfl (lv_at hl 1 rfl) ?_
        obtain ⟨r_7, hr_7, h⟩ := ob_some h
        refine g_ci Γ hI (g_runS (As := [.ref (X.2.1 + qa), .int v3, .int v1]) Γ hI (S_X12_ends l X σ qa hqa v3 v1 r_7 hr_7) mf_X12_ends gw_233 rfl rfl ⟨Nat.le_of_ble_eq_true rfl, Nat.le_of_ble_eq_true rfl⟩ rfl hl.1 rfl (Nat.le_of_ble_eq_true rfl) dX12_lineMany_22 ⟨Nat.zero_le _, Nat.zero_le _⟩) (fun H locs hI => ?_)
        clear hr_7
        refine lv_iadd Γ.1.1 Γ.1.2.1 dX12_lineMany_25 ?_
        refine lv_topi (fun v2_9 e_v2_9 => ?_)
        replace h := nm_at e_v2_9 h; clear e_v2_9
        refine lv_istore_n (lv' := [(2, .int v2_9), (0, .ref (X.2.1 + qa)), (1, .int v1), (3, .int v3)]) Γ.1.1 Γ.1.2.1 dX12_lineMany_26 rfl hl (by decide) rfl (fun ls hl => ?_)
        obtain ⟨v3_10, e_v3_10, h⟩ := nm_some h
        refine lv_iinc (v := v3_10) (lv' := [(3, .int v3_10), (2, .int v2_9), (0, .ref (X.2.1 + qa)), (1, .int v1)]) Γ.1.1 Γ.1.2.1 dX12_lineMany_27 hl (k := 3) rfl (by rw [e_v3_10]; rfl) (by decide) rfl (fun ls hl => ?_)
        clear e_v3_10
        refine lv_goto (tgt := 4) Γ.1.1 Γ.1.2.1 dX12_lineMany_30 (by decide) ?_
        exact ih v2_9 v3_10 _ _ _ hI (lv_sub hl [2, 3, 1, 0] rfl) h
set_option maxRecDepth 20000 in
set_option maxHeartbeats 4000000 in
theorem S_X12_lineMany (l : Launch) (X : GX) (σ : GM) (qa : Nat) (hqa : sh qa = (11, 159)) (v1 : Int32) (x : Int32) (h : f_X12_lineMany σ qa v1 = some x) : gMet l yX12_lineMany cX12_lineMany 4 (some .int) ({ frames := 2, cells := 0, slots := 0, locals := 46 } : Room) X σ [.ref (X.2.1 + qa), .int v1] (gQi X σ x) := by
  unfold f_X12_lineMany at h
  refine gMet_of (lv := [(0, .ref (X.2.1 + qa)), (1, .int v1)]) (by decide) rfl (Nat.le_of_ble_eq_true rfl) rfl (fun p e s m below meth c H ls Γ hI hl => ?_)
  refine lv_iconst (v := (0 : Int32)) Γ.1.1 Γ.1.2.1 dX12_lineMany_0 (by decide) ?_
  refine lv_istore_n (lv' := [(2, .int (0 : Int32)), (0, .ref (X.2.1 + qa)), (1, .int v1)]) Γ.1.1 Γ.1.2.1 dX12_lineMany_1 rfl hl (by decide) rfl (fun ls hl => ?_)
  refine lv_iconst (v := (0 : Int32)) Γ.1.1 Γ.1.2.1 dX12_lineMany_2 (by decide) ?_
  refine lv_istore_n (lv' := [(3, .int (0 : Int32)), (2, .int (0 : Int32)), (0, .ref (X.2.1 + qa)), (1, .int v1)]) Γ.1.1 Γ.1.2.1 dX12_lineMany_3 rfl hl (by decide) rfl (fun ls hl => ?_)
  exact s_X12_lineMany_L4 σ qa hqa x Γ v1 _ (0 : Int32) (0 : Int32) _ _ _ hI (lv_sub hl [2, 3, 1, 0] rfl) h
set_option maxRecDepth 20000 in
set_option maxHeartbeats 4000000 in
theorem s_X12_named_L2 {p : Program} {l : Launch} {e : Env} {s : State} {m : MethodId} {args : Array Value} {below : List Frame} {meth : Method} {c : Code} {X : GX} (σ : GM) (x : Int32) (Γ : gC X p m meth c cX12_named 2 s args RX12 (some .int)) :
    ∀ (k : Nat) (v1 : Int32) (H : Heap) (locs : List Loc) (ls : Array Slot), gI X σ s H locs → lv_has ls 2 [(0, .ref (X.2.1 + 60)), (1, .int v1)] → f_X12_named_L2 σ k v1 = some x →
    W p l e ({ frames := 0, cells := 0, slots := 0, locals := 0 } : Room) s m args below meth c H locs 0 0 (MQ below (gQi X σ x) args s 0 0 (gA X)) (F0 m 2 ls []) := by
  intro k
  induction k with
  | zero =>
    intro v1 H locs ls hI hl h
    exact absurd h (by simp [f_X12_named_L2])
  | succ k ih =>
    intro v1 H locs ls hI hl h
    unfold f_X12_named_L2 at h
    refine lv_iload_n Γ.1.1 Γ.1.2.1 dX12_named_2 rfl (lv_at hl 1 rfl) ?_
    refine lv_aload_n Γ.1.1 Γ.1.2.1 dX12_named_3 rfl (lv_at hl 0 rfl) ?_
    refine get_X12_read Γ hI gw_234 dX12_named_4 ?_
    refine lv_iconst (v := (0 : Int32)) Γ.1.1 Γ.1.2.1 dX12_named_7 (by decide) ?_
    obtain ⟨hb_1, h⟩ := bnd_some h
    refine g_iald Γ hI sh_63 hb_1 dX12_named_8 ?_
    refine lv_icmp_ge (tgt := 34) Γ.1.1 Γ.1.2.1 dX12_named_9 (by decide) (fun c_2 => ?_) (fun c_2 => ?_)
    · replace h := ite_pos c_2 h; clear c_2
      refine lv_iconst (v := (-1 : Int32)) Γ.1.1 Γ.1.2.1 dX12_named_34 (by decide) ?_
      exact g_iret Γ hI dX12_named_35 rfl (Option.some.inj h)
    · replace h := ite_neg c_2 h; clear c_2
      refine lv_aload_n Γ.1.1 Γ.1.2.1 dX12_named_12 rfl (lv_at hl 0 rfl) ?_
      refine get_X12_names Γ hI gw_235 dX12_named_13 ?_
      refine lv_iload_n Γ.1.1 Γ.1.2.1 dX12_named_16 rfl (lv_at hl 1 rfl) ?_
      obtain ⟨hb_3, h⟩ := bnd_some h
      refine g_lald Γ hI sh_68 hb_3 dX12_named_17 ?_
      refine lv_aload_n Γ.1.1 Γ.1.2.1 dX12_named_18 rfl (lv_at hl 0 rfl) ?_
      refine get_X12_word Γ hI gw_220 dX12_named_19 ?_
      refine W.lcmp Γ.1.1 Γ.1.2.1 dX12_named_22 ?_
      refine lv_if_ne (tgt := 28) Γ.1.1 Γ.1.2.1 dX12_named_23 (by decide) (fun c_4 => ?_) (fun c_4 => ?_)
      · replace h := ite_neg c_4 h; clear c_4
        obtain ⟨v1_5, e_v1_5, h⟩ := nm_some h
        refine lv_iinc (v := v1_5) (lv' := [(1, .int v1_5), (0, .ref (X.2.1 + 60))]) Γ.1.1 Γ.1.2.1 dX12_named_28 hl (k := 1) rfl (by rw [e_v1_5]; rfl) (by decide) rfl (fun ls hl => ?_)
        clear e_v1_5
        refine lv_goto (tgt := 2) Γ.1.1 Γ.1.2.1 dX12_named_31 (by decide) ?_
        exact ih v1_5 _ _ _ hI (lv_sub hl [1, 0] rfl) h
      · replace h := ite_pos c_4 h; clear c_4
        refine lv_iload_n Γ.1.1 Γ.1.2.1 dX12_named_26 rfl (lv_at hl 1 rfl) ?_
        exact g_iret Γ hI dX12_named_27 rfl (Option.some.inj h)
set_option maxRecDepth 20000 in
set_option maxHeartbeats 4000000 in
theorem S_X12_named (l : Launch) (X : GX) (σ : GM) (x : Int32) (h : f_X12_named σ = some x) : gMet l yX12_named cX12_named 2 (some .int) ({ frames := 0, cells := 0, slots := 0, locals := 0 } : Room) X σ [.ref (X.2.1 + 60)] (gQi X σ x) := by
  unfold f_X12_named at h
  refine gMet_of (lv := [(0, .ref (X.2.1 + 60))]) (by decide) rfl (Nat.le_of_ble_eq_true rfl) rfl (fun p e s m below meth c H ls Γ hI hl => ?_)
  refine lv_iconst (v := (0 : Int32)) Γ.1.1 Γ.1.2.1 dX12_named_0 (by decide) ?_
  refine lv_istore_n (lv' := [(1, .int (0 : Int32)), (0, .ref (X.2.1 + 60))]) Γ.1.1 Γ.1.2.1 dX12_named_1 rfl hl (by decide) rfl (fun ls hl => ?_)
  exact s_X12_named_L2 σ x Γ _ (0 : Int32) _ _ _ hI (lv_sub hl [1, 0] rfl) h
set_option maxRecDepth 20000 in
set_option maxHeartbeats 4000000 in
theorem s_X12_readPoint_L116 {p : Program} {l : Launch} {e : Env} {s : State} {m : MethodId} {args : Array Value} {below : List Frame} {meth : Method} {c : Code} {X : GX} (σr : GM) (x : Int32) (Γ : gC X p m meth c cX12_readPoint 2 s args RX12 (some .boolean)) :
    ∀ (σ : GM) (v1 : Int32) (H : Heap) (locs : List Loc) (ls : Array Slot), gI X σ s H locs → lv_has ls 2 [(0, .ref (X.2.1 + 60)), (1, .int v1)] → f_X12_readPoint_L116 σ v1 = some (σr, x) →
    W p l e ({ frames := 3, cells := 0, slots := 0, locals := 66 } : Room) s m args below meth c H locs 0 0 (MQ below (gQi X σr x) args s 0 0 (gA X)) (F0 m 116 ls []) := by
  intro σ v1 H locs ls hI hl h
  unfold f_X12_readPoint_L116 at h
  refine lv_aload_n Γ.1.1 Γ.1.2.1 dX12_readPoint_116 rfl (lv_at hl 0 rfl) ?_
  refine get_X12_read Γ hI gw_234 dX12_readPoint_117 ?_
  refine lv_iconst (v := (0 : Int32)) Γ.1.1 Γ.1.2.1 dX12_readPoint_120 (by decide) ?_
  refine lv_dup2_11 Γ.1.1 Γ.1.2.1 dX12_readPoint_121 rfl rfl ?_
  obtain ⟨hb_19, h⟩ := bnd_some h
  refine g_iald Γ hI sh_63 hb_19 dX12_readPoint_122 ?_
  refine lv_iconst (v := (1 : Int32)) Γ.1.1 Γ.1.2.1 dX12_readPoint_123 (by decide) ?_
  refine lv_iadd Γ.1.1 Γ.1.2.1 dX12_readPoint_124 ?_
  obtain ⟨hb_20, h⟩ := bnd_some h
  refine g_iast Γ hI sh_63 hb_20 dX12_readPoint_125 (fun H locs hI => ?_)
  obtain ⟨σ_21, e_m_21, h⟩ := nm_some h
  rw [← e_m_21] at hI; clear e_m_21
  refine lv_aload_n Γ.1.1 Γ.1.2.1 dX12_readPoint_126 rfl (lv_at hl 0 rfl) ?_
  refine get_X12_read Γ hI gw_234 dX12_readPoint_127 ?_
  refine lv_iconst (v := (1 : Int32)) Γ.1.1 Γ.1.2.1 dX12_readPoint_130 (by decide) ?_
  refine lv_dup2_11 Γ.1.1 Γ.1.2.1 dX12_readPoint_131 rfl rfl ?_
  obtain ⟨hb_22, h⟩ := bnd_some h
  refine g_iald Γ hI sh_63 hb_22 dX12_readPoint_132 ?_
  refine lv_iconst (v := (1 : Int32)) Γ.1.1 Γ.1.2.1 dX12_readPoint_133 (by decide) ?_
  refine lv_iload_n Γ.1.1 Γ.1.2.1 dX12_readPoint_134 rfl (lv_at hl 1 rfl) ?_
  refine lv_ishl Γ.1.1 Γ.1.2.1 dX12_readPoint_135 ?_
  refine lv_ior Γ.1.1 Γ.1.2.1 dX12_readPoint_136 ?_
  obtain ⟨hb_23, h⟩ := bnd_some h
  refine g_iast Γ hI sh_63 hb_23 dX12_readPoint_137 (fun H locs hI => ?_)
  obtain ⟨σ_24, e_m_24, h⟩ := nm_some h
  rw [← e_m_24] at hI; clear e_m_24
  refine lv_iconst (v := (1 : Int32)) Γ.1.1 Γ.1.2.1 dX12_readPoint_138 (by decide) ?_
  exact g_zret Γ hI dX12_readPoint_139 (Prod.mk.inj (Option.some.inj h)).1 (Prod.mk.inj (Option.some.inj h)).2
set_option maxRecDepth 20000 in
set_option maxHeartbeats 4000000 in
theorem S_X12_readPoint (l : Launch) (X : GX) (σ : GM) (σr : GM) (x : Int32) (h : f_X12_readPoint σ = some (σr, x)) : gMet l yX12_readPoint cX12_readPoint 2 (some .boolean) ({ frames := 3, cells := 0, slots := 0, locals := 66 } : Room) X σ [.ref (X.2.1 + 60)] (gQi X σr x) := by
  unfold f_X12_readPoint at h
  refine gMet_of (lv := [(0, .ref (X.2.1 + 60))]) (by decide) rfl (Nat.le_of_ble_eq_true rfl) rfl (fun p e s m below meth c H ls Γ hI hl => ?_)
  refine lv_aload_n Γ.1.1 Γ.1.2.1 dX12_readPoint_0 rfl (lv_at hl 0 rfl) ?_
  refine get_X12_read Γ hI gw_234 dX12_readPoint_1 ?_
  refine lv_iconst (v := (0 : Int32)) Γ.1.1 Γ.1.2.1 dX12_readPoint_4 (by decide) ?_
  obtain ⟨hb_1, h⟩ := bnd_some h
  refine g_iald Γ hI sh_63 hb_1 dX12_readPoint_5 ?_
  refine lv_topi (fun v1_2 e_v1_2 => ?_)
  replace h := nm_at e_v1_2 h; clear e_v1_2
  refine lv_istore_n (lv' := [(1, .int v1_2), (0, .ref (X.2.1 + 60))]) Γ.1.1 Γ.1.2.1 dX12_readPoint_6 rfl hl (by decide) rfl (fun ls hl => ?_)
  refine lv_iload_n Γ.1.1 Γ.1.2.1 dX12_readPoint_7 rfl (lv_at hl 0 rfl) ?_
  refine lv_bipush (v := (12 : Int32)) Γ.1.1 Γ.1.2.1 dX12_readPoint_8 (by decide) ?_
  refine lv_icmp_ne (tgt := 19) Γ.1.1 Γ.1.2.1 dX12_readPoint_10 (by decide) (fun c_3 => ?_) (fun c_3 => ?_)
  · replace h := ite_neg c_3 h; clear c_3
    refine lv_aload_n Γ.1.1 Γ.1.2.1 dX12_readPoint_19 rfl (lv_at hl 1 rfl) ?_
    obtain ⟨σ_5, hr_4, h⟩ := ob_some h
    refine g_cv Γ hI (g_runV (As := []) Γ hI (S_X12_next l X σ σ_5 hr_4) mf_X12_next (recv_X12 Γ hI) gw_236 rfl rfl ⟨Nat.le_of_ble_eq_true rfl, Nat.le_of_ble_eq_true rfl⟩ rfl hl.1 rfl (Nat.le_of_ble_eq_true rfl) dX12_readPoint_20 ⟨Nat.zero_le _, Nat.zero_le _⟩) (fun H locs hI => ?_)
    clear hr_4
    refine lv_aload_n Γ.1.1 Γ.1.2.1 dX12_readPoint_23 rfl (lv_at hl 1 rfl) ?_
    obtain ⟨r_6, hr_6, h⟩ := ob_some h
    refine g_ci Γ hI (g_runV (As := []) Γ hI (S_X12_isName l X σ_5 r_6 hr_6) mf_X12_isName (recv_X12 Γ hI) gw_237 rfl rfl ⟨Nat.le_of_ble_eq_true rfl, Nat.le_of_ble_eq_true rfl⟩ rfl hl.1 rfl (Nat.le_of_ble_eq_true rfl) dX12_readPoint_24 ⟨Nat.zero_le _, Nat.zero_le _⟩) (fun H locs hI => ?_)
    clear hr_6
    refine lv_if_ne (tgt := 36) Γ.1.1 Γ.1.2.1 dX12_readPoint_27 (by decide) (fun c_8 => ?_) (fun c_8 => ?_)
    · replace h := ite_neg c_8 h; clear c_8
      refine lv_aload_n Γ.1.1 Γ.1.2.1 dX12_readPoint_36 rfl (lv_at hl 1 rfl) ?_
      obtain ⟨r_9, hr_9, h⟩ := ob_some h
      refine g_ci Γ hI (g_runV (As := []) Γ hI (S_X12_named l X σ_5 r_9 hr_9) mf_X12_named (recv_X12 Γ hI) gw_238 rfl rfl ⟨Nat.le_of_ble_eq_true rfl, Nat.le_of_ble_eq_true rfl⟩ rfl hl.1 rfl (Nat.le_of_ble_eq_true rfl) dX12_readPoint_37 ⟨Nat.zero_le _, Nat.zero_le _⟩) (fun H locs hI => ?_)
      clear hr_9
      refine lv_iconst (v := (-1 : Int32)) Γ.1.1 Γ.1.2.1 dX12_readPoint_40 (by decide) ?_
      refine lv_icmp_eq (tgt := 50) Γ.1.1 Γ.1.2.1 dX12_readPoint_41 (by decide) (fun c_11 => ?_) (fun c_11 => ?_)
      · replace h := ite_pos c_11 h; clear c_11
        refine lv_aload_n Γ.1.1 Γ.1.2.1 dX12_readPoint_50 rfl (lv_at hl 1 rfl) ?_
        refine get_X12_names Γ hI gw_235 dX12_readPoint_51 ?_
        refine lv_iload_n Γ.1.1 Γ.1.2.1 dX12_readPoint_54 rfl (lv_at hl 0 rfl) ?_
        refine lv_aload_n Γ.1.1 Γ.1.2.1 dX12_readPoint_55 rfl (lv_at hl 1 rfl) ?_
        refine get_X12_word Γ hI gw_220 dX12_readPoint_56 ?_
        obtain ⟨hb_12, h⟩ := bnd_some h
        refine g_last Γ hI sh_68 hb_12 dX12_readPoint_59 (fun H locs hI => ?_)
        obtain ⟨σ_13, e_m_13, h⟩ := nm_some h
        rw [← e_m_13] at hI; clear e_m_13
        refine lv_aload_n Γ.1.1 Γ.1.2.1 dX12_readPoint_60 rfl (lv_at hl 1 rfl) ?_
        refine get_X12_read Γ hI gw_234 dX12_readPoint_61 ?_
        refine lv_iconst (v := (3 : Int32)) Γ.1.1 Γ.1.2.1 dX12_readPoint_64 (by decide) ?_
        refine lv_iload_n Γ.1.1 Γ.1.2.1 dX12_readPoint_65 rfl (lv_at hl 0 rfl) ?_
        refine lv_iadd Γ.1.1 Γ.1.2.1 dX12_readPoint_66 ?_
        refine lv_iconst (v := (1 : Int32)) Γ.1.1 Γ.1.2.1 dX12_readPoint_67 (by decide) ?_
        obtain ⟨hb_14, h⟩ := bnd_some h
        refine g_iast Γ hI sh_63 hb_14 dX12_readPoint_68 (fun H locs hI => ?_)
        obtain ⟨σ_15, e_m_15, h⟩ := nm_some h
        rw [← e_m_15] at hI; clear e_m_15
        refine lv_aload_n Γ.1.1 Γ.1.2.1 dX12_readPoint_69 rfl (lv_at hl 1 rfl) ?_
        obtain ⟨σ_17, hr_16, h⟩ := ob_some h
        refine g_cv Γ hI (g_runV (As := []) Γ hI (S_X12_next l X σ_15 σ_17 hr_16) mf_X12_next (recv_X12 Γ hI) gw_236 rfl rfl ⟨Nat.le_of_ble_eq_true rfl, Nat.le_of_ble_eq_true rfl⟩ rfl hl.1 rfl (Nat.le_of_ble_eq_true rfl) dX12_readPoint_70 ⟨Nat.zero_le _, Nat.zero_le _⟩) (fun H locs hI => ?_)
        clear hr_16
        refine lv_aload_n Γ.1.1 Γ.1.2.1 dX12_readPoint_73 rfl (lv_at hl 1 rfl) ?_
        refine get_X12_kind Γ hI gw_226 dX12_readPoint_74 ?_
        refine lv_iconst (v := (3 : Int32)) Γ.1.1 Γ.1.2.1 dX12_readPoint_77 (by decide) ?_
        refine lv_icmp_ne (tgt := 116) Γ.1.1 Γ.1.2.1 dX12_readPoint_78 (by decide) (fun c_18 => ?_) (fun c_18 => ?_)
        · replace h := ite_neg c_18 h; clear c_18
          exact s_X12_readPoint_L116 σr x Γ σ_17 v1_2 _ _ _ hI (lv_sub hl [1, 0] rfl) h
        · replace h := ite_pos c_18 h; clear c_18
          refine lv_aload_n Γ.1.1 Γ.1.2.1 dX12_readPoint_81 rfl (lv_at hl 1 rfl) ?_
          refine get_X12_number Γ hI gw_221 dX12_readPoint_82 ?_
          refine lv_iconst (v := (1 : Int32)) Γ.1.1 Γ.1.2.1 dX12_readPoint_85 (by decide) ?_
          refine lv_bipush (v := (9 : Int32)) Γ.1.1 Γ.1.2.1 dX12_readPoint_86 (by decide) ?_
          obtain ⟨r_25, hr_25, h⟩ := ob_some h
          refine g_ci Γ hI (g_runS (As := [.int (σ_17.1 60 7), .int (1 : Int32), .int (9 : Int32)]) Γ hI (S_X12_isIn l X σ_17 (σ_17.1 60 7) (1 : Int32) (9 : Int32) r_25 hr_25) mf_X12_isIn gw_239 rfl rfl ⟨Nat.le_of_ble_eq_true rfl, Nat.le_of_ble_eq_true rfl⟩ rfl hl.1 rfl (Nat.le_of_ble_eq_true rfl) dX12_readPoint_88 ⟨Nat.zero_le _, Nat.zero_le _⟩) (fun H locs hI => ?_)
          clear hr_25
          refine lv_if_ne (tgt := 100) Γ.1.1 Γ.1.2.1 dX12_readPoint_91 (by decide) (fun c_27 => ?_) (fun c_27 => ?_)
          · replace h := ite_neg c_27 h; clear c_27
            refine lv_aload_n Γ.1.1 Γ.1.2.1 dX12_readPoint_100 rfl (lv_at hl 1 rfl) ?_
            refine get_X12_read Γ hI gw_234 dX12_readPoint_101 ?_
            refine lv_iconst (v := (3 : Int32)) Γ.1.1 Γ.1.2.1 dX12_readPoint_104 (by decide) ?_
            refine lv_iload_n Γ.1.1 Γ.1.2.1 dX12_readPoint_105 rfl (lv_at hl 0 rfl) ?_
            refine lv_iadd Γ.1.1 Γ.1.2.1 dX12_readPoint_106 ?_
            refine lv_aload_n Γ.1.1 Γ.1.2.1 dX12_readPoint_107 rfl (lv_at hl 1 rfl) ?_
            refine get_X12_number Γ hI gw_221 dX12_readPoint_108 ?_
            obtain ⟨hb_28, h⟩ := bnd_some h
            refine g_iast Γ hI sh_63 hb_28 dX12_readPoint_111 (fun H locs hI => ?_)
            obtain ⟨σ_29, e_m_29, h⟩ := nm_some h
            rw [← e_m_29] at hI; clear e_m_29
            refine lv_aload_n Γ.1.1 Γ.1.2.1 dX12_readPoint_112 rfl (lv_at hl 1 rfl) ?_
            obtain ⟨σ_31, hr_30, h⟩ := ob_some h
            refine g_cv Γ hI (g_runV (As := []) Γ hI (S_X12_next l X σ_29 σ_31 hr_30) mf_X12_next (recv_X12 Γ hI) gw_236 rfl rfl ⟨Nat.le_of_ble_eq_true rfl, Nat.le_of_ble_eq_true rfl⟩ rfl hl.1 rfl (Nat.le_of_ble_eq_true rfl) dX12_readPoint_113 ⟨Nat.zero_le _, Nat.zero_le _⟩) (fun H locs hI => ?_)
            clear hr_30
            exact s_X12_readPoint_L116 σr x Γ σ_31 v1_2 _ _ _ hI (lv_sub hl [1, 0] rfl) h
          · replace h := ite_pos c_27 h; clear c_27
            refine lv_aload_n Γ.1.1 Γ.1.2.1 dX12_readPoint_94 rfl (lv_at hl 1 rfl) ?_
            refine lv_iconst (v := (2 : Int32)) Γ.1.1 Γ.1.2.1 dX12_readPoint_95 (by decide) ?_
            obtain ⟨σ_33, r_32, hr_32, h⟩ := ob2_some h
            refine g_ci Γ hI (g_runV (As := [.int (2 : Int32)]) Γ hI (S_X12_bad l X σ_17 (2 : Int32) σ_33 r_32 hr_32) mf_X12_bad (recv_X12 Γ hI) gw_240 rfl rfl ⟨Nat.le_of_ble_eq_true rfl, Nat.le_of_ble_eq_true rfl⟩ rfl hl.1 rfl (Nat.le_of_ble_eq_true rfl) dX12_readPoint_96 ⟨Nat.zero_le _, Nat.zero_le _⟩) (fun H locs hI => ?_)
            clear hr_32
            exact g_zret Γ hI dX12_readPoint_99 (Prod.mk.inj (Option.some.inj h)).1 (Prod.mk.inj (Option.some.inj h)).2
      · replace h := ite_neg c_11 h; clear c_11
        refine lv_aload_n Γ.1.1 Γ.1.2.1 dX12_readPoint_44 rfl (lv_at hl 1 rfl) ?_
        refine lv_iconst (v := (3 : Int32)) Γ.1.1 Γ.1.2.1 dX12_readPoint_45 (by decide) ?_
        obtain ⟨σ_35, r_34, hr_34, h⟩ := ob2_some h
        refine g_ci Γ hI (g_runV (As := [.int (3 : Int32)]) Γ hI (S_X12_bad l X σ_5 (3 : Int32) σ_35 r_34 hr_34) mf_X12_bad (recv_X12 Γ hI) gw_240 rfl rfl ⟨Nat.le_of_ble_eq_true rfl, Nat.le_of_ble_eq_true rfl⟩ rfl hl.1 rfl (Nat.le_of_ble_eq_true rfl) dX12_readPoint_46 ⟨Nat.zero_le _, Nat.zero_le _⟩) (fun H locs hI => ?_)
        clear hr_34
        exact g_zret Γ hI dX12_readPoint_49 (Prod.mk.inj (Option.some.inj h)).1 (Prod.mk.inj (Option.some.inj h)).2
    · replace h := ite_pos c_8 h; clear c_8
      refine lv_aload_n Γ.1.1 Γ.1.2.1 dX12_readPoint_30 rfl (lv_at hl 1 rfl) ?_
      refine lv_iconst (v := (1 : Int32)) Γ.1.1 Γ.1.2.1 dX12_readPoint_31 (by decide) ?_
      obtain ⟨σ_37, r_36, hr_36, h⟩ := ob2_some h
      refine g_ci Γ hI (g_runV (As := [.int (1 : Int32)]) Γ hI (S_X12_bad l X σ_5 (1 : Int32) σ_37 r_36 hr_36) mf_X12_bad (recv_X12 Γ hI) gw_240 rfl rfl ⟨Nat.le_of_ble_eq_true rfl, Nat.le_of_ble_eq_true rfl⟩ rfl hl.1 rfl (Nat.le_of_ble_eq_true rfl) dX12_readPoint_32 ⟨Nat.zero_le _, Nat.zero_le _⟩) (fun H locs hI => ?_)
      clear hr_36
      exact g_zret Γ hI dX12_readPoint_35 (Prod.mk.inj (Option.some.inj h)).1 (Prod.mk.inj (Option.some.inj h)).2
  · replace h := ite_pos c_3 h; clear c_3
    refine lv_aload_n Γ.1.1 Γ.1.2.1 dX12_readPoint_13 rfl (lv_at hl 1 rfl) ?_
    refine lv_iconst (v := (4 : Int32)) Γ.1.1 Γ.1.2.1 dX12_readPoint_14 (by decide) ?_
    obtain ⟨σ_39, r_38, hr_38, h⟩ := ob2_some h
    refine g_ci Γ hI (g_runV (As := [.int (4 : Int32)]) Γ hI (S_X12_bad l X σ (4 : Int32) σ_39 r_38 hr_38) mf_X12_bad (recv_X12 Γ hI) gw_240 rfl rfl ⟨Nat.le_of_ble_eq_true rfl, Nat.le_of_ble_eq_true rfl⟩ rfl hl.1 rfl (Nat.le_of_ble_eq_true rfl) dX12_readPoint_15 ⟨Nat.zero_le _, Nat.zero_le _⟩) (fun H locs hI => ?_)
    clear hr_38
    exact g_zret Γ hI dX12_readPoint_18 (Prod.mk.inj (Option.some.inj h)).1 (Prod.mk.inj (Option.some.inj h)).2
set_option maxRecDepth 20000 in
set_option maxHeartbeats 4000000 in
theorem s_X12_readLine_L124 {p : Program} {l : Launch} {e : Env} {s : State} {m : MethodId} {args : Array Value} {below : List Frame} {meth : Method} {c : Code} {X : GX} (σr : GM) (x : Int32) (Γ : gC X p m meth c cX12_readLine 3 s args RX12 (some .boolean)) :
    ∀ (σ : GM) (v1 : Int32) (v2 : Int32) (s0 : Int32) (s1 : Int32) (H : Heap) (locs : List Loc) (ls : Array Slot), gI X σ s H locs → lv_has ls 3 [(0, .ref (X.2.1 + 60)), (1, .int v1), (2, .int v2)] → f_X12_readLine_L124 σ v1 v2 s0 s1 = some (σr, x) →
    W p l e ({ frames := 3, cells := 0, slots := 0, locals := 69 } : Room) s m args below meth c H locs 0 0 (MQ below (gQi X σr x) args s 0 0 (gA X)) (F0 m 124 ls [.int s1, .int s0]) := by
  intro σ v1 v2 s0 s1 H locs ls hI hl h
  unfold f_X12_readLine_L124 at h
  refine lv_iadd Γ.1.1 Γ.1.2.1 dX12_readLine_124 ?_
  refine lv_bipush (v := (6 : Int32)) Γ.1.1 Γ.1.2.1 dX12_readLine_125 (by decide) ?_
  refine lv_icmp_ne (tgt := 136) Γ.1.1 Γ.1.2.1 dX12_readLine_127 (by decide) (fun c_26 => ?_) (fun c_26 => ?_)
  · replace h := ite_neg c_26 h; clear c_26
    refine lv_aload_n Γ.1.1 Γ.1.2.1 dX12_readLine_136 rfl (lv_at hl 0 rfl) ?_
    refine get_X12_read Γ hI gw_234 dX12_readLine_137 ?_
    refine lv_iload_n Γ.1.1 Γ.1.2.1 dX12_readLine_140 rfl (lv_at hl 1 rfl) ?_
    refine lv_iload_n Γ.1.1 Γ.1.2.1 dX12_readLine_141 rfl (lv_at hl 2 rfl) ?_
    refine lv_iconst (v := (1 : Int32)) Γ.1.1 Γ.1.2.1 dX12_readLine_142 (by decide) ?_
    obtain ⟨σ_28, hr_27, h⟩ := ob_some h
    refine g_cv Γ hI (g_runS (As := [.ref (X.2.1 + 63), .int v1, .int v2, .int (1 : Int32)]) Γ hI (S_X12_adds l X σ 63 sh_63 v1 v2 (1 : Int32) σ_28 hr_27) mf_X12_adds gw_243 rfl rfl ⟨Nat.le_of_ble_eq_true rfl, Nat.le_of_ble_eq_true rfl⟩ rfl hl.1 rfl (Nat.le_of_ble_eq_true rfl) dX12_readLine_143 ⟨Nat.zero_le _, Nat.zero_le _⟩) (fun H locs hI => ?_)
    clear hr_27
    refine lv_aload_n Γ.1.1 Γ.1.2.1 dX12_readLine_146 rfl (lv_at hl 0 rfl) ?_
    obtain ⟨σ_30, hr_29, h⟩ := ob_some h
    refine g_cv Γ hI (g_runV (As := []) Γ hI (S_X12_next l X σ_28 σ_30 hr_29) mf_X12_next (recv_X12 Γ hI) gw_236 rfl rfl ⟨Nat.le_of_ble_eq_true rfl, Nat.le_of_ble_eq_true rfl⟩ rfl hl.1 rfl (Nat.le_of_ble_eq_true rfl) dX12_readLine_147 ⟨Nat.zero_le _, Nat.zero_le _⟩) (fun H locs hI => ?_)
    clear hr_29
    refine lv_iconst (v := (1 : Int32)) Γ.1.1 Γ.1.2.1 dX12_readLine_150 (by decide) ?_
    exact g_zret Γ hI dX12_readLine_151 (Prod.mk.inj (Option.some.inj h)).1 (Prod.mk.inj (Option.some.inj h)).2
  · replace h := ite_pos c_26 h; clear c_26
    refine lv_aload_n Γ.1.1 Γ.1.2.1 dX12_readLine_130 rfl (lv_at hl 0 rfl) ?_
    refine lv_iconst (v := (5 : Int32)) Γ.1.1 Γ.1.2.1 dX12_readLine_131 (by decide) ?_
    obtain ⟨σ_32, r_31, hr_31, h⟩ := ob2_some h
    refine g_ci Γ hI (g_runV (As := [.int (5 : Int32)]) Γ hI (S_X12_bad l X σ (5 : Int32) σ_32 r_31 hr_31) mf_X12_bad (recv_X12 Γ hI) gw_240 rfl rfl ⟨Nat.le_of_ble_eq_true rfl, Nat.le_of_ble_eq_true rfl⟩ rfl hl.1 rfl (Nat.le_of_ble_eq_true rfl) dX12_readLine_132 ⟨Nat.zero_le _, Nat.zero_le _⟩) (fun H locs hI => ?_)
    clear hr_31
    exact g_zret Γ hI dX12_readLine_135 (Prod.mk.inj (Option.some.inj h)).1 (Prod.mk.inj (Option.some.inj h)).2
set_option maxRecDepth 20000 in
set_option maxHeartbeats 4000000 in
theorem S_X12_readLine (l : Launch) (X : GX) (σ : GM) (σr : GM) (x : Int32) (h : f_X12_readLine σ = some (σr, x)) : gMet l yX12_readLine cX12_readLine 3 (some .boolean) ({ frames := 3, cells := 0, slots := 0, locals := 69 } : Room) X σ [.ref (X.2.1 + 60)] (gQi X σr x) := by
  unfold f_X12_readLine at h
  refine gMet_of (lv := [(0, .ref (X.2.1 + 60))]) (by decide) rfl (Nat.le_of_ble_eq_true rfl) rfl (fun p e s m below meth c H ls Γ hI hl => ?_)
  refine lv_aload_n Γ.1.1 Γ.1.2.1 dX12_readLine_0 rfl (lv_at hl 0 rfl) ?_
  refine get_X12_read Γ hI gw_234 dX12_readLine_1 ?_
  refine lv_sipush (v := (4095 : Int32)) Γ.1.1 Γ.1.2.1 dX12_readLine_4 (by decide) ?_
  obtain ⟨r_1, hr_1, h⟩ := ob_some h
  refine g_ci Γ hI (g_runS (As := [.ref (X.2.1 + 63), .int (4095 : Int32)]) Γ hI (S_X12_lineMany l X σ 63 sh_63 (4095 : Int32) r_1 hr_1) mf_X12_lineMany gw_241 rfl rfl ⟨Nat.le_of_ble_eq_true rfl, Nat.le_of_ble_eq_true rfl⟩ rfl hl.1 rfl (Nat.le_of_ble_eq_true rfl) dX12_readLine_7 ⟨Nat.zero_le _, Nat.zero_le _⟩) (fun H locs hI => ?_)
  clear hr_1
  refine lv_bipush (v := (20 : Int32)) Γ.1.1 Γ.1.2.1 dX12_readLine_10 (by decide) ?_
  refine lv_icmp_ne (tgt := 21) Γ.1.1 Γ.1.2.1 dX12_readLine_12 (by decide) (fun c_3 => ?_) (fun c_3 => ?_)
  · replace h := ite_neg c_3 h; clear c_3
    refine lv_aload_n Γ.1.1 Γ.1.2.1 dX12_readLine_21 rfl (lv_at hl 0 rfl) ?_
    obtain ⟨σ_5, hr_4, h⟩ := ob_some h
    refine g_cv Γ hI (g_runV (As := []) Γ hI (S_X12_next l X σ σ_5 hr_4) mf_X12_next (recv_X12 Γ hI) gw_236 rfl rfl ⟨Nat.le_of_ble_eq_true rfl, Nat.le_of_ble_eq_true rfl⟩ rfl hl.1 rfl (Nat.le_of_ble_eq_true rfl) dX12_readLine_22 ⟨Nat.zero_le _, Nat.zero_le _⟩) (fun H locs hI => ?_)
    clear hr_4
    refine lv_aload_n Γ.1.1 Γ.1.2.1 dX12_readLine_25 rfl (lv_at hl 0 rfl) ?_
    obtain ⟨r_6, hr_6, h⟩ := ob_some h
    refine g_ci Γ hI (g_runV (As := []) Γ hI (S_X12_isName l X σ_5 r_6 hr_6) mf_X12_isName (recv_X12 Γ hI) gw_237 rfl rfl ⟨Nat.le_of_ble_eq_true rfl, Nat.le_of_ble_eq_true rfl⟩ rfl hl.1 rfl (Nat.le_of_ble_eq_true rfl) dX12_readLine_26 ⟨Nat.zero_le _, Nat.zero_le _⟩) (fun H locs hI => ?_)
    clear hr_6
    refine lv_if_ne (tgt := 38) Γ.1.1 Γ.1.2.1 dX12_readLine_29 (by decide) (fun c_8 => ?_) (fun c_8 => ?_)
    · replace h := ite_neg c_8 h; clear c_8
      refine lv_aload_n Γ.1.1 Γ.1.2.1 dX12_readLine_38 rfl (lv_at hl 0 rfl) ?_
      obtain ⟨r_9, hr_9, h⟩ := ob_some h
      refine g_ci Γ hI (g_runV (As := []) Γ hI (S_X12_named l X σ_5 r_9 hr_9) mf_X12_named (recv_X12 Γ hI) gw_238 rfl rfl ⟨Nat.le_of_ble_eq_true rfl, Nat.le_of_ble_eq_true rfl⟩ rfl hl.1 rfl (Nat.le_of_ble_eq_true rfl) dX12_readLine_39 ⟨Nat.zero_le _, Nat.zero_le _⟩) (fun H locs hI => ?_)
      clear hr_9
      refine lv_istore_n (lv' := [(1, .int r_9), (0, .ref (X.2.1 + 60))]) Γ.1.1 Γ.1.2.1 dX12_readLine_42 rfl hl (by decide) rfl (fun ls hl => ?_)
      refine lv_iload_n Γ.1.1 Γ.1.2.1 dX12_readLine_43 rfl (lv_at hl 0 rfl) ?_
      refine lv_iconst (v := (-1 : Int32)) Γ.1.1 Γ.1.2.1 dX12_readLine_44 (by decide) ?_
      refine lv_icmp_ne (tgt := 54) Γ.1.1 Γ.1.2.1 dX12_readLine_45 (by decide) (fun c_11 => ?_) (fun c_11 => ?_)
      · replace h := ite_neg c_11 h; clear c_11
        refine lv_aload_n Γ.1.1 Γ.1.2.1 dX12_readLine_54 rfl (lv_at hl 1 rfl) ?_
        refine get_X12_read Γ hI gw_234 dX12_readLine_55 ?_
        refine lv_iload_n Γ.1.1 Γ.1.2.1 dX12_readLine_58 rfl (lv_at hl 0 rfl) ?_
        obtain ⟨r_12, hr_12, h⟩ := ob_some h
        refine g_ci Γ hI (g_runS (As := [.ref (X.2.1 + 63), .int r_9]) Γ hI (S_X12_allEnds l X σ_5 63 sh_63 r_9 r_12 hr_12) mf_X12_allEnds gw_242 rfl rfl ⟨Nat.le_of_ble_eq_true rfl, Nat.le_of_ble_eq_true rfl⟩ rfl hl.1 rfl (Nat.le_of_ble_eq_true rfl) dX12_readLine_59 ⟨Nat.zero_le _, Nat.zero_le _⟩) (fun H locs hI => ?_)
        clear hr_12
        refine lv_bipush (v := (6 : Int32)) Γ.1.1 Γ.1.2.1 dX12_readLine_62 (by decide) ?_
        refine lv_icmp_ne (tgt := 73) Γ.1.1 Γ.1.2.1 dX12_readLine_64 (by decide) (fun c_14 => ?_) (fun c_14 => ?_)
        · replace h := ite_neg c_14 h; clear c_14
          refine lv_aload_n Γ.1.1 Γ.1.2.1 dX12_readLine_73 rfl (lv_at hl 1 rfl) ?_
          obtain ⟨σ_16, hr_15, h⟩ := ob_some h
          refine g_cv Γ hI (g_runV (As := []) Γ hI (S_X12_next l X σ_5 σ_16 hr_15) mf_X12_next (recv_X12 Γ hI) gw_236 rfl rfl ⟨Nat.le_of_ble_eq_true rfl, Nat.le_of_ble_eq_true rfl⟩ rfl hl.1 rfl (Nat.le_of_ble_eq_true rfl) dX12_readLine_74 ⟨Nat.zero_le _, Nat.zero_le _⟩) (fun H locs hI => ?_)
          clear hr_15
          refine lv_aload_n Γ.1.1 Γ.1.2.1 dX12_readLine_77 rfl (lv_at hl 1 rfl) ?_
          obtain ⟨r_17, hr_17, h⟩ := ob_some h
          refine g_ci Γ hI (g_runV (As := []) Γ hI (S_X12_isName l X σ_16 r_17 hr_17) mf_X12_isName (recv_X12 Γ hI) gw_237 rfl rfl ⟨Nat.le_of_ble_eq_true rfl, Nat.le_of_ble_eq_true rfl⟩ rfl hl.1 rfl (Nat.le_of_ble_eq_true rfl) dX12_readLine_78 ⟨Nat.zero_le _, Nat.zero_le _⟩) (fun H locs hI => ?_)
          clear hr_17
          refine lv_if_ne (tgt := 90) Γ.1.1 Γ.1.2.1 dX12_readLine_81 (by decide) (fun c_19 => ?_) (fun c_19 => ?_)
          · replace h := ite_neg c_19 h; clear c_19
            refine lv_aload_n Γ.1.1 Γ.1.2.1 dX12_readLine_90 rfl (lv_at hl 1 rfl) ?_
            obtain ⟨r_20, hr_20, h⟩ := ob_some h
            refine g_ci Γ hI (g_runV (As := []) Γ hI (S_X12_named l X σ_16 r_20 hr_20) mf_X12_named (recv_X12 Γ hI) gw_238 rfl rfl ⟨Nat.le_of_ble_eq_true rfl, Nat.le_of_ble_eq_true rfl⟩ rfl hl.1 rfl (Nat.le_of_ble_eq_true rfl) dX12_readLine_91 ⟨Nat.zero_le _, Nat.zero_le _⟩) (fun H locs hI => ?_)
            clear hr_20
            refine lv_istore_n (lv' := [(2, .int r_20), (1, .int r_9), (0, .ref (X.2.1 + 60))]) Γ.1.1 Γ.1.2.1 dX12_readLine_94 rfl hl (by decide) rfl (fun ls hl => ?_)
            refine lv_iload_n Γ.1.1 Γ.1.2.1 dX12_readLine_95 rfl (lv_at hl 0 rfl) ?_
            refine lv_iconst (v := (-1 : Int32)) Γ.1.1 Γ.1.2.1 dX12_readLine_96 (by decide) ?_
            refine lv_icmp_ne (tgt := 106) Γ.1.1 Γ.1.2.1 dX12_readLine_97 (by decide) (fun c_22 => ?_) (fun c_22 => ?_)
            · replace h := ite_neg c_22 h; clear c_22
              refine lv_aload_n Γ.1.1 Γ.1.2.1 dX12_readLine_106 rfl (lv_at hl 2 rfl) ?_
              refine get_X12_read Γ hI gw_234 dX12_readLine_107 ?_
              refine lv_iload_n Γ.1.1 Γ.1.2.1 dX12_readLine_110 rfl (lv_at hl 0 rfl) ?_
              obtain ⟨r_23, hr_23, h⟩ := ob_some h
              refine g_ci Γ hI (g_runS (As := [.ref (X.2.1 + 63), .int r_20]) Γ hI (S_X12_allEnds l X σ_16 63 sh_63 r_20 r_23 hr_23) mf_X12_allEnds gw_242 rfl rfl ⟨Nat.le_of_ble_eq_true rfl, Nat.le_of_ble_eq_true rfl⟩ rfl hl.1 rfl (Nat.le_of_ble_eq_true rfl) dX12_readLine_111 ⟨Nat.zero_le _, Nat.zero_le _⟩) (fun H locs hI => ?_)
              clear hr_23
              refine lv_iload_n Γ.1.1 Γ.1.2.1 dX12_readLine_114 rfl (lv_at hl 0 rfl) ?_
              refine lv_iload_n Γ.1.1 Γ.1.2.1 dX12_readLine_115 rfl (lv_at hl 1 rfl) ?_
              refine lv_icmp_ne (tgt := 123) Γ.1.1 Γ.1.2.1 dX12_readLine_116 (by decide) (fun c_25 => ?_) (fun c_25 => ?_)
              · replace h := ite_neg c_25 h; clear c_25
                refine lv_iconst (v := (0 : Int32)) Γ.1.1 Γ.1.2.1 dX12_readLine_123 (by decide) ?_
                exact s_X12_readLine_L124 σr x Γ σ_16 r_9 r_20 r_23 (0 : Int32) _ _ _ hI (lv_sub hl [2, 1, 0] rfl) h
              · replace h := ite_pos c_25 h; clear c_25
                refine lv_iconst (v := (1 : Int32)) Γ.1.1 Γ.1.2.1 dX12_readLine_119 (by decide) ?_
                refine lv_goto (tgt := 124) Γ.1.1 Γ.1.2.1 dX12_readLine_120 (by decide) ?_
                exact s_X12_readLine_L124 σr x Γ σ_16 r_9 r_20 r_23 (1 : Int32) _ _ _ hI (lv_sub hl [2, 1, 0] rfl) h
            · replace h := ite_pos c_22 h; clear c_22
              refine lv_aload_n Γ.1.1 Γ.1.2.1 dX12_readLine_100 rfl (lv_at hl 2 rfl) ?_
              refine lv_iconst (v := (3 : Int32)) Γ.1.1 Γ.1.2.1 dX12_readLine_101 (by decide) ?_
              obtain ⟨σ_34, r_33, hr_33, h⟩ := ob2_some h
              refine g_ci Γ hI (g_runV (As := [.int (3 : Int32)]) Γ hI (S_X12_bad l X σ_16 (3 : Int32) σ_34 r_33 hr_33) mf_X12_bad (recv_X12 Γ hI) gw_240 rfl rfl ⟨Nat.le_of_ble_eq_true rfl, Nat.le_of_ble_eq_true rfl⟩ rfl hl.1 rfl (Nat.le_of_ble_eq_true rfl) dX12_readLine_102 ⟨Nat.zero_le _, Nat.zero_le _⟩) (fun H locs hI => ?_)
              clear hr_33
              exact g_zret Γ hI dX12_readLine_105 (Prod.mk.inj (Option.some.inj h)).1 (Prod.mk.inj (Option.some.inj h)).2
          · replace h := ite_pos c_19 h; clear c_19
            refine lv_aload_n Γ.1.1 Γ.1.2.1 dX12_readLine_84 rfl (lv_at hl 1 rfl) ?_
            refine lv_iconst (v := (1 : Int32)) Γ.1.1 Γ.1.2.1 dX12_readLine_85 (by decide) ?_
            obtain ⟨σ_36, r_35, hr_35, h⟩ := ob2_some h
            refine g_ci Γ hI (g_runV (As := [.int (1 : Int32)]) Γ hI (S_X12_bad l X σ_16 (1 : Int32) σ_36 r_35 hr_35) mf_X12_bad (recv_X12 Γ hI) gw_240 rfl rfl ⟨Nat.le_of_ble_eq_true rfl, Nat.le_of_ble_eq_true rfl⟩ rfl hl.1 rfl (Nat.le_of_ble_eq_true rfl) dX12_readLine_86 ⟨Nat.zero_le _, Nat.zero_le _⟩) (fun H locs hI => ?_)
            clear hr_35
            exact g_zret Γ hI dX12_readLine_89 (Prod.mk.inj (Option.some.inj h)).1 (Prod.mk.inj (Option.some.inj h)).2
        · replace h := ite_pos c_14 h; clear c_14
          refine lv_aload_n Γ.1.1 Γ.1.2.1 dX12_readLine_67 rfl (lv_at hl 1 rfl) ?_
          refine lv_iconst (v := (5 : Int32)) Γ.1.1 Γ.1.2.1 dX12_readLine_68 (by decide) ?_
          obtain ⟨σ_38, r_37, hr_37, h⟩ := ob2_some h
          refine g_ci Γ hI (g_runV (As := [.int (5 : Int32)]) Γ hI (S_X12_bad l X σ_5 (5 : Int32) σ_38 r_37 hr_37) mf_X12_bad (recv_X12 Γ hI) gw_240 rfl rfl ⟨Nat.le_of_ble_eq_true rfl, Nat.le_of_ble_eq_true rfl⟩ rfl hl.1 rfl (Nat.le_of_ble_eq_true rfl) dX12_readLine_69 ⟨Nat.zero_le _, Nat.zero_le _⟩) (fun H locs hI => ?_)
          clear hr_37
          exact g_zret Γ hI dX12_readLine_72 (Prod.mk.inj (Option.some.inj h)).1 (Prod.mk.inj (Option.some.inj h)).2
      · replace h := ite_pos c_11 h; clear c_11
        refine lv_aload_n Γ.1.1 Γ.1.2.1 dX12_readLine_48 rfl (lv_at hl 1 rfl) ?_
        refine lv_iconst (v := (3 : Int32)) Γ.1.1 Γ.1.2.1 dX12_readLine_49 (by decide) ?_
        obtain ⟨σ_40, r_39, hr_39, h⟩ := ob2_some h
        refine g_ci Γ hI (g_runV (As := [.int (3 : Int32)]) Γ hI (S_X12_bad l X σ_5 (3 : Int32) σ_40 r_39 hr_39) mf_X12_bad (recv_X12 Γ hI) gw_240 rfl rfl ⟨Nat.le_of_ble_eq_true rfl, Nat.le_of_ble_eq_true rfl⟩ rfl hl.1 rfl (Nat.le_of_ble_eq_true rfl) dX12_readLine_50 ⟨Nat.zero_le _, Nat.zero_le _⟩) (fun H locs hI => ?_)
        clear hr_39
        exact g_zret Γ hI dX12_readLine_53 (Prod.mk.inj (Option.some.inj h)).1 (Prod.mk.inj (Option.some.inj h)).2
    · replace h := ite_pos c_8 h; clear c_8
      refine lv_aload_n Γ.1.1 Γ.1.2.1 dX12_readLine_32 rfl (lv_at hl 0 rfl) ?_
      refine lv_iconst (v := (1 : Int32)) Γ.1.1 Γ.1.2.1 dX12_readLine_33 (by decide) ?_
      obtain ⟨σ_42, r_41, hr_41, h⟩ := ob2_some h
      refine g_ci Γ hI (g_runV (As := [.int (1 : Int32)]) Γ hI (S_X12_bad l X σ_5 (1 : Int32) σ_42 r_41 hr_41) mf_X12_bad (recv_X12 Γ hI) gw_240 rfl rfl ⟨Nat.le_of_ble_eq_true rfl, Nat.le_of_ble_eq_true rfl⟩ rfl hl.1 rfl (Nat.le_of_ble_eq_true rfl) dX12_readLine_34 ⟨Nat.zero_le _, Nat.zero_le _⟩) (fun H locs hI => ?_)
      clear hr_41
      exact g_zret Γ hI dX12_readLine_37 (Prod.mk.inj (Option.some.inj h)).1 (Prod.mk.inj (Option.some.inj h)).2
  · replace h := ite_pos c_3 h; clear c_3
    refine lv_aload_n Γ.1.1 Γ.1.2.1 dX12_readLine_15 rfl (lv_at hl 0 rfl) ?_
    refine lv_iconst (v := (4 : Int32)) Γ.1.1 Γ.1.2.1 dX12_readLine_16 (by decide) ?_
    obtain ⟨σ_44, r_43, hr_43, h⟩ := ob2_some h
    refine g_ci Γ hI (g_runV (As := [.int (4 : Int32)]) Γ hI (S_X12_bad l X σ (4 : Int32) σ_44 r_43 hr_43) mf_X12_bad (recv_X12 Γ hI) gw_240 rfl rfl ⟨Nat.le_of_ble_eq_true rfl, Nat.le_of_ble_eq_true rfl⟩ rfl hl.1 rfl (Nat.le_of_ble_eq_true rfl) dX12_readLine_17 ⟨Nat.zero_le _, Nat.zero_le _⟩) (fun H locs hI => ?_)
    clear hr_43
    exact g_zret Γ hI dX12_readLine_20 (Prod.mk.inj (Option.some.inj h)).1 (Prod.mk.inj (Option.some.inj h)).2
set_option maxRecDepth 20000 in
set_option maxHeartbeats 4000000 in
theorem S_X12_readEnd (l : Launch) (X : GX) (σ : GM) (σr : GM) (x : Int32) (h : f_X12_readEnd σ = some (σr, x)) : gMet l yX12_readEnd cX12_readEnd 1 (some .boolean) ({ frames := 2, cells := 0, slots := 0, locals := 45 } : Room) X σ [.ref (X.2.1 + 60)] (gQi X σr x) := by
  unfold f_X12_readEnd at h
  refine gMet_of (lv := [(0, .ref (X.2.1 + 60))]) (by decide) rfl (Nat.le_of_ble_eq_true rfl) rfl (fun p e s m below meth c H ls Γ hI hl => ?_)
  refine lv_aload_n Γ.1.1 Γ.1.2.1 dX12_readEnd_0 rfl (lv_at hl 0 rfl) ?_
  refine get_X12_kind Γ hI gw_226 dX12_readEnd_1 ?_
  refine lv_iconst (v := (4 : Int32)) Γ.1.1 Γ.1.2.1 dX12_readEnd_4 (by decide) ?_
  refine lv_icmp_eq (tgt := 14) Γ.1.1 Γ.1.2.1 dX12_readEnd_5 (by decide) (fun c_1 => ?_) (fun c_1 => ?_)
  · replace h := ite_pos c_1 h; clear c_1
    refine lv_aload_n Γ.1.1 Γ.1.2.1 dX12_readEnd_14 rfl (lv_at hl 0 rfl) ?_
    obtain ⟨σ_3, hr_2, h⟩ := ob_some h
    refine g_cv Γ hI (g_runV (As := []) Γ hI (S_X12_next l X σ σ_3 hr_2) mf_X12_next (recv_X12 Γ hI) gw_236 rfl rfl ⟨Nat.le_of_ble_eq_true rfl, Nat.le_of_ble_eq_true rfl⟩ rfl hl.1 rfl (Nat.le_of_ble_eq_true rfl) dX12_readEnd_15 ⟨Nat.zero_le _, Nat.zero_le _⟩) (fun H locs hI => ?_)
    clear hr_2
    refine lv_iconst (v := (1 : Int32)) Γ.1.1 Γ.1.2.1 dX12_readEnd_18 (by decide) ?_
    exact g_zret Γ hI dX12_readEnd_19 (Prod.mk.inj (Option.some.inj h)).1 (Prod.mk.inj (Option.some.inj h)).2
  · replace h := ite_neg c_1 h; clear c_1
    refine lv_aload_n Γ.1.1 Γ.1.2.1 dX12_readEnd_8 rfl (lv_at hl 0 rfl) ?_
    refine lv_iconst (v := (1 : Int32)) Γ.1.1 Γ.1.2.1 dX12_readEnd_9 (by decide) ?_
    obtain ⟨σ_5, r_4, hr_4, h⟩ := ob2_some h
    refine g_ci Γ hI (g_runV (As := [.int (1 : Int32)]) Γ hI (S_X12_bad l X σ (1 : Int32) σ_5 r_4 hr_4) mf_X12_bad (recv_X12 Γ hI) gw_240 rfl rfl ⟨Nat.le_of_ble_eq_true rfl, Nat.le_of_ble_eq_true rfl⟩ rfl hl.1 rfl (Nat.le_of_ble_eq_true rfl) dX12_readEnd_10 ⟨Nat.zero_le _, Nat.zero_le _⟩) (fun H locs hI => ?_)
    clear hr_4
    exact g_zret Γ hI dX12_readEnd_13 (Prod.mk.inj (Option.some.inj h)).1 (Prod.mk.inj (Option.some.inj h)).2
set_option maxRecDepth 20000 in
set_option maxHeartbeats 4000000 in
theorem s_X12_net_L121 {p : Program} {l : Launch} {e : Env} {s : State} {m : MethodId} {args : Array Value} {below : List Frame} {meth : Method} {c : Code} {X : GX} (σr : GM) (x : Int32) (Γ : gC X p m meth c cX12_net 3 s args RX12 (some .int)) :
    ∀ (σ : GM) (v1 : Int32) (H : Heap) (locs : List Loc) (ls : Array Slot), gI X σ s H locs → lv_has ls 3 [(0, .ref (X.2.1 + 60)), (1, .int v1)] → f_X12_net_L121 σ v1 = some (σr, x) →
    W p l e ({ frames := 4, cells := 0, slots := 0, locals := 91 } : Room) s m args below meth c H locs 0 0 (MQ below (gQi X σr x) args s 0 0 (gA X)) (F0 m 121 ls []) := by
  intro σ v1 H locs ls hI hl h
  unfold f_X12_net_L121 at h
  refine lv_aload_n Γ.1.1 Γ.1.2.1 dX12_net_121 rfl (lv_at hl 0 rfl) ?_
  refine get_X12_read Γ hI gw_234 dX12_net_122 ?_
  refine lv_iconst (v := (0 : Int32)) Γ.1.1 Γ.1.2.1 dX12_net_125 (by decide) ?_
  refine lv_aload_n Γ.1.1 Γ.1.2.1 dX12_net_126 rfl (lv_at hl 0 rfl) ?_
  refine get_X12_now Γ hI gw_244 dX12_net_127 ?_
  refine lv_iconst (v := (0 : Int32)) Γ.1.1 Γ.1.2.1 dX12_net_130 (by decide) ?_
  obtain ⟨σ_11, hr_10, h⟩ := ob_some h
  refine g_cv Γ hI (g_runS (As := [.ref (X.2.1 + 63), .int (0 : Int32), .ref (X.2.1 + 62), .int (0 : Int32)]) Γ hI (S_X12_copy l X σ 63 62 sh_63 sh_62 (0 : Int32) (0 : Int32) σ_11 hr_10) mf_X12_copy gw_245 rfl rfl ⟨Nat.le_of_ble_eq_true rfl, Nat.le_of_ble_eq_true rfl⟩ rfl hl.1 rfl (Nat.le_of_ble_eq_true rfl) dX12_net_131 ⟨Nat.zero_le _, Nat.zero_le _⟩) (fun H locs hI => ?_)
  clear hr_10
  refine lv_aload_n Γ.1.1 Γ.1.2.1 dX12_net_134 rfl (lv_at hl 0 rfl) ?_
  refine lv_iconst (v := (0 : Int32)) Γ.1.1 Γ.1.2.1 dX12_net_135 (by decide) ?_
  refine put_X12_snapMany Γ hI gw_246 dX12_net_136 (fun H locs hI => ?_)
  obtain ⟨σ_12, e_m_12, h⟩ := nm_some h
  rw [← e_m_12] at hI; clear e_m_12
  refine lv_iload_n Γ.1.1 Γ.1.2.1 dX12_net_139 rfl (lv_at hl 1 rfl) ?_
  exact g_iret Γ hI dX12_net_140 (Prod.mk.inj (Option.some.inj h)).1 (Prod.mk.inj (Option.some.inj h)).2
set_option maxRecDepth 20000 in
set_option maxHeartbeats 4000000 in
theorem s_X12_net_L108 {p : Program} {l : Launch} {e : Env} {s : State} {m : MethodId} {args : Array Value} {below : List Frame} {meth : Method} {c : Code} {X : GX} (σr : GM) (x : Int32) (Γ : gC X p m meth c cX12_net 3 s args RX12 (some .int)) :
    ∀ (σ : GM) (H : Heap) (locs : List Loc) (ls : Array Slot), gI X σ s H locs → lv_has ls 3 [(0, .ref (X.2.1 + 60))] → f_X12_net_L108 σ = some (σr, x) →
    W p l e ({ frames := 4, cells := 0, slots := 0, locals := 91 } : Room) s m args below meth c H locs 0 0 (MQ below (gQi X σr x) args s 0 0 (gA X)) (F0 m 108 ls []) := by
  intro σ H locs ls hI hl h
  unfold f_X12_net_L108 at h
  refine lv_iconst (v := (-1 : Int32)) Γ.1.1 Γ.1.2.1 dX12_net_108 (by decide) ?_
  refine lv_aload_n Γ.1.1 Γ.1.2.1 dX12_net_109 rfl (lv_at hl 0 rfl) ?_
  refine get_X12_place Γ hI gw_231 dX12_net_110 ?_
  refine lv_isub Γ.1.1 Γ.1.2.1 dX12_net_113 ?_
  exact g_iret Γ hI dX12_net_114 (Prod.mk.inj (Option.some.inj h)).1 (Prod.mk.inj (Option.some.inj h)).2
set_option maxRecDepth 20000 in
set_option maxHeartbeats 4000000 in
theorem s_X12_net_L96 {p : Program} {l : Launch} {e : Env} {s : State} {m : MethodId} {args : Array Value} {below : List Frame} {meth : Method} {c : Code} {X : GX} (σr : GM) (x : Int32) (Γ : gC X p m meth c cX12_net 3 s args RX12 (some .int)) (k56 : GM → Int32 → Option (GM × Int32)) (hk56 : ∀ (σ : GM) (v1 : Int32) (H : Heap) (locs : List Loc) (ls : Array Slot), gI X σ s H locs → lv_has ls 3 [(0, .ref (X.2.1 + 60)), (1, .int v1)] → k56 σ v1 = some (σr, x) → W p l e ({ frames := 4, cells := 0, slots := 0, locals := 91 } : Room) s m args below meth c H locs 0 0 (MQ below (gQi X σr x) args s 0 0 (gA X)) (F0 m 56 ls [])) :
    ∀ (σ : GM) (v1 : Int32) (s0 : Int32) (H : Heap) (locs : List Loc) (ls : Array Slot), gI X σ s H locs → lv_has ls 3 [(0, .ref (X.2.1 + 60)), (1, .int v1)] → f_X12_net_L96 k56 σ v1 s0 = some (σr, x) →
    W p l e ({ frames := 4, cells := 0, slots := 0, locals := 91 } : Room) s m args below meth c H locs 0 0 (MQ below (gQi X σr x) args s 0 0 (gA X)) (F0 m 96 ls [.int s0]) := by
  intro σ v1 s0 H locs ls hI hl h
  unfold f_X12_net_L96 at h
  refine lv_istore_n (lv' := [(2, .int s0), (0, .ref (X.2.1 + 60)), (1, .int v1)]) Γ.1.1 Γ.1.2.1 dX12_net_96 rfl hl (by decide) rfl (fun ls hl => ?_)
  refine lv_iload_n Γ.1.1 Γ.1.2.1 dX12_net_97 rfl (lv_at hl 0 rfl) ?_
  refine lv_if_eq (tgt := 108) Γ.1.1 Γ.1.2.1 dX12_net_98 (by decide) (fun c_21 => ?_) (fun c_21 => ?_)
  · replace h := ite_pos c_21 h; clear c_21
    exact s_X12_net_L108 σr x Γ σ _ _ _ hI (lv_sub hl [1] rfl) h
  · replace h := ite_neg c_21 h; clear c_21
    refine lv_aload_n Γ.1.1 Γ.1.2.1 dX12_net_101 rfl (lv_at hl 1 rfl) ?_
    obtain ⟨σ_23, r_22, hr_22, h⟩ := ob2_some h
    refine g_ci Γ hI (g_runV (As := []) Γ hI (S_X12_readEnd l X σ σ_23 r_22 hr_22) mf_X12_readEnd (recv_X12 Γ hI) gw_247 rfl rfl ⟨Nat.le_of_ble_eq_true rfl, Nat.le_of_ble_eq_true rfl⟩ rfl hl.1 rfl (Nat.le_of_ble_eq_true rfl) dX12_net_102 ⟨Nat.zero_le _, Nat.zero_le _⟩) (fun H locs hI => ?_)
    clear hr_22
    refine lv_if_ne (tgt := 115) Γ.1.1 Γ.1.2.1 dX12_net_105 (by decide) (fun c_24 => ?_) (fun c_24 => ?_)
    · replace h := ite_neg c_24 h; clear c_24
      obtain ⟨v1_25, e_v1_25, h⟩ := nm_some h
      refine lv_iinc (v := v1_25) (lv' := [(1, .int v1_25), (2, .int s0), (0, .ref (X.2.1 + 60))]) Γ.1.1 Γ.1.2.1 dX12_net_115 hl (k := 2) rfl (by rw [e_v1_25]; rfl) (by decide) rfl (fun ls hl => ?_)
      clear e_v1_25
      refine lv_goto (tgt := 56) Γ.1.1 Γ.1.2.1 dX12_net_118 (by decide) ?_
      exact hk56 σ_23 v1_25 _ _ _ hI (lv_sub hl [2, 0] rfl) h
    · replace h := ite_pos c_24 h; clear c_24
      exact s_X12_net_L108 σr x Γ σ_23 _ _ _ hI (lv_sub hl [1] rfl) h
set_option maxRecDepth 20000 in
set_option maxHeartbeats 4000000 in
theorem s_X12_net_L56 {p : Program} {l : Launch} {e : Env} {s : State} {m : MethodId} {args : Array Value} {below : List Frame} {meth : Method} {c : Code} {X : GX} (σr : GM) (x : Int32) (Γ : gC X p m meth c cX12_net 3 s args RX12 (some .int)) :
    ∀ (k : Nat) (σ : GM) (v1 : Int32) (H : Heap) (locs : List Loc) (ls : Array Slot), gI X σ s H locs → lv_has ls 3 [(0, .ref (X.2.1 + 60)), (1, .int v1)] → f_X12_net_L56 k σ v1 = some (σr, x) →
    W p l e ({ frames := 4, cells := 0, slots := 0, locals := 91 } : Room) s m args below meth c H locs 0 0 (MQ below (gQi X σr x) args s 0 0 (gA X)) (F0 m 56 ls []) := by
  intro k
  induction k with
  | zero =>
    intro σ v1 H locs ls hI hl h
    exact absurd h (by simp [f_X12_net_L56])
  | succ k ih =>
    intro σ v1 H locs ls hI hl h
    unfold f_X12_net_L56 at h
    refine lv_aload_n Γ.1.1 Γ.1.2.1 dX12_net_56 rfl (lv_at hl 0 rfl) ?_
    refine get_X12_kind Γ hI gw_226 dX12_net_57 ?_
    refine lv_if_eq (tgt := 121) Γ.1.1 Γ.1.2.1 dX12_net_60 (by decide) (fun c_9 => ?_) (fun c_9 => ?_)
    · replace h := ite_pos c_9 h; clear c_9
      exact s_X12_net_L121 σr x Γ σ v1 _ _ _ hI hl h
    · replace h := ite_neg c_9 h; clear c_9
      refine lv_aload_n Γ.1.1 Γ.1.2.1 dX12_net_63 rfl (lv_at hl 0 rfl) ?_
      obtain ⟨r_13, hr_13, h⟩ := ob_some h
      refine g_ci Γ hI (g_runV (As := []) Γ hI (S_X12_isPointWord l X σ r_13 hr_13) mf_X12_isPointWord (recv_X12 Γ hI) gw_228 rfl rfl ⟨Nat.le_of_ble_eq_true rfl, Nat.le_of_ble_eq_true rfl⟩ rfl hl.1 rfl (Nat.le_of_ble_eq_true rfl) dX12_net_64 ⟨Nat.zero_le _, Nat.zero_le _⟩) (fun H locs hI => ?_)
      clear hr_13
      refine lv_if_eq (tgt := 77) Γ.1.1 Γ.1.2.1 dX12_net_67 (by decide) (fun c_15 => ?_) (fun c_15 => ?_)
      · replace h := ite_pos c_15 h; clear c_15
        refine lv_aload_n Γ.1.1 Γ.1.2.1 dX12_net_77 rfl (lv_at hl 0 rfl) ?_
        obtain ⟨r_16, hr_16, h⟩ := ob_some h
        refine g_ci Γ hI (g_runV (As := []) Γ hI (S_X12_isLineWord l X σ r_16 hr_16) mf_X12_isLineWord (recv_X12 Γ hI) gw_229 rfl rfl ⟨Nat.le_of_ble_eq_true rfl, Nat.le_of_ble_eq_true rfl⟩ rfl hl.1 rfl (Nat.le_of_ble_eq_true rfl) dX12_net_78 ⟨Nat.zero_le _, Nat.zero_le _⟩) (fun H locs hI => ?_)
        clear hr_16
        refine lv_if_eq (tgt := 91) Γ.1.1 Γ.1.2.1 dX12_net_81 (by decide) (fun c_18 => ?_) (fun c_18 => ?_)
        · replace h := ite_pos c_18 h; clear c_18
          refine lv_aload_n Γ.1.1 Γ.1.2.1 dX12_net_91 rfl (lv_at hl 0 rfl) ?_
          refine lv_iconst (v := (1 : Int32)) Γ.1.1 Γ.1.2.1 dX12_net_92 (by decide) ?_
          obtain ⟨σ_20, r_19, hr_19, h⟩ := ob2_some h
          refine g_ci Γ hI (g_runV (As := [.int (1 : Int32)]) Γ hI (S_X12_bad l X σ (1 : Int32) σ_20 r_19 hr_19) mf_X12_bad (recv_X12 Γ hI) gw_240 rfl rfl ⟨Nat.le_of_ble_eq_true rfl, Nat.le_of_ble_eq_true rfl⟩ rfl hl.1 rfl (Nat.le_of_ble_eq_true rfl) dX12_net_93 ⟨Nat.zero_le _, Nat.zero_le _⟩) (fun H locs hI => ?_)
          clear hr_19
          exact s_X12_net_L96 σr x Γ _ ih σ_20 v1 r_19 _ _ _ hI hl h
        · replace h := ite_neg c_18 h; clear c_18
          refine lv_aload_n Γ.1.1 Γ.1.2.1 dX12_net_84 rfl (lv_at hl 0 rfl) ?_
          obtain ⟨σ_27, r_26, hr_26, h⟩ := ob2_some h
          refine g_ci Γ hI (g_runV (As := []) Γ hI (S_X12_readLine l X σ σ_27 r_26 hr_26) mf_X12_readLine (recv_X12 Γ hI) gw_248 rfl rfl ⟨Nat.le_of_ble_eq_true rfl, Nat.le_of_ble_eq_true rfl⟩ rfl hl.1 rfl (Nat.le_of_ble_eq_true rfl) dX12_net_85 ⟨Nat.zero_le _, Nat.zero_le _⟩) (fun H locs hI => ?_)
          clear hr_26
          refine lv_goto (tgt := 96) Γ.1.1 Γ.1.2.1 dX12_net_88 (by decide) ?_
          exact s_X12_net_L96 σr x Γ _ ih σ_27 v1 r_26 _ _ _ hI hl h
      · replace h := ite_neg c_15 h; clear c_15
        refine lv_aload_n Γ.1.1 Γ.1.2.1 dX12_net_70 rfl (lv_at hl 0 rfl) ?_
        obtain ⟨σ_29, r_28, hr_28, h⟩ := ob2_some h
        refine g_ci Γ hI (g_runV (As := []) Γ hI (S_X12_readPoint l X σ σ_29 r_28 hr_28) mf_X12_readPoint (recv_X12 Γ hI) gw_249 rfl rfl ⟨Nat.le_of_ble_eq_true rfl, Nat.le_of_ble_eq_true rfl⟩ rfl hl.1 rfl (Nat.le_of_ble_eq_true rfl) dX12_net_71 ⟨Nat.zero_le _, Nat.zero_le _⟩) (fun H locs hI => ?_)
        clear hr_28
        refine lv_goto (tgt := 96) Γ.1.1 Γ.1.2.1 dX12_net_74 (by decide) ?_
        exact s_X12_net_L96 σr x Γ _ ih σ_29 v1 r_28 _ _ _ hI hl h
set_option maxRecDepth 20000 in
set_option maxHeartbeats 4000000 in
theorem s_X12_net_L32 {p : Program} {l : Launch} {e : Env} {s : State} {m : MethodId} {args : Array Value} {below : List Frame} {meth : Method} {c : Code} {X : GX} (σr : GM) (x : Int32) (Γ : gC X p m meth c cX12_net 3 s args RX12 (some .int)) (v1 : Int32) :
    ∀ (k : Nat) (σ : GM) (v2 : Int32) (H : Heap) (locs : List Loc) (ls : Array Slot), gI X σ s H locs → lv_has ls 3 [(0, .ref (X.2.1 + 60)), (1, .int v1), (2, .int v2)] → f_X12_net_L32 v1 k σ v2 = some (σr, x) →
    W p l e ({ frames := 4, cells := 0, slots := 0, locals := 91 } : Room) s m args below meth c H locs 0 0 (MQ below (gQi X σr x) args s 0 0 (gA X)) (F0 m 32 ls []) := by
  intro k
  induction k with
  | zero =>
    intro σ v2 H locs ls hI hl h
    exact absurd h (by simp [f_X12_net_L32])
  | succ k ih =>
    intro σ v2 H locs ls hI hl h
    unfold f_X12_net_L32 at h
    refine lv_iload_n Γ.1.1 Γ.1.2.1 dX12_net_32 rfl (lv_at hl 2 rfl) ?_
    refine lv_sipush (v := (159 : Int32)) Γ.1.1 Γ.1.2.1 dX12_net_33 (by decide) ?_
    refine lv_icmp_ge (tgt := 52) Γ.1.1 Γ.1.2.1 dX12_net_36 (by decide) (fun c_6 => ?_) (fun c_6 => ?_)
    · replace h := ite_pos c_6 h; clear c_6
      refine lv_aload_n Γ.1.1 Γ.1.2.1 dX12_net_52 rfl (lv_at hl 0 rfl) ?_
      obtain ⟨σ_8, hr_7, h⟩ := ob_some h
      refine g_cv Γ hI (g_runV (As := []) Γ hI (S_X12_next l X σ σ_8 hr_7) mf_X12_next (recv_X12 Γ hI) gw_236 rfl rfl ⟨Nat.le_of_ble_eq_true rfl, Nat.le_of_ble_eq_true rfl⟩ rfl hl.1 rfl (Nat.le_of_ble_eq_true rfl) dX12_net_53 ⟨Nat.zero_le _, Nat.zero_le _⟩) (fun H locs hI => ?_)
      clear hr_7
      exact s_X12_net_L56 σr x Γ _ σ_8 v1 _ _ _ hI (lv_sub hl [0, 1] rfl) h
    · replace h := ite_neg c_6 h; clear c_6
      refine lv_aload_n Γ.1.1 Γ.1.2.1 dX12_net_39 rfl (lv_at hl 0 rfl) ?_
      refine get_X12_read Γ hI gw_234 dX12_net_40 ?_
      refine lv_iload_n Γ.1.1 Γ.1.2.1 dX12_net_43 rfl (lv_at hl 2 rfl) ?_
      refine lv_iconst (v := (0 : Int32)) Γ.1.1 Γ.1.2.1 dX12_net_44 (by decide) ?_
      obtain ⟨hb_30, h⟩ := bnd_some h
      refine g_iast Γ hI sh_63 hb_30 dX12_net_45 (fun H locs hI => ?_)
      obtain ⟨σ_31, e_m_31, h⟩ := nm_some h
      rw [← e_m_31] at hI; clear e_m_31
      obtain ⟨v2_32, e_v2_32, h⟩ := nm_some h
      refine lv_iinc (v := v2_32) (lv' := [(2, .int v2_32), (0, .ref (X.2.1 + 60)), (1, .int v1)]) Γ.1.1 Γ.1.2.1 dX12_net_46 hl (k := 2) rfl (by rw [e_v2_32]; rfl) (by decide) rfl (fun ls hl => ?_)
      clear e_v2_32
      refine lv_goto (tgt := 32) Γ.1.1 Γ.1.2.1 dX12_net_49 (by decide) ?_
      exact ih σ_31 v2_32 _ _ _ hI (lv_sub hl [1, 2, 0] rfl) h
set_option maxRecDepth 20000 in
set_option maxHeartbeats 4000000 in
theorem S_X12_net (l : Launch) (X : GX) (σ : GM) (σr : GM) (x : Int32) (h : f_X12_net σ = some (σr, x)) : gMet l yX12_net cX12_net 3 (some .int) ({ frames := 4, cells := 0, slots := 0, locals := 91 } : Room) X σ [.ref (X.2.1 + 60)] (gQi X σr x) := by
  unfold f_X12_net at h
  refine gMet_of (lv := [(0, .ref (X.2.1 + 60))]) (by decide) rfl (Nat.le_of_ble_eq_true rfl) rfl (fun p e s m below meth c H ls Γ hI hl => ?_)
  refine lv_aload_n Γ.1.1 Γ.1.2.1 dX12_net_0 rfl (lv_at hl 0 rfl) ?_
  refine lv_iconst (v := (0 : Int32)) Γ.1.1 Γ.1.2.1 dX12_net_1 (by decide) ?_
  refine put_X12_thrown Γ hI gw_211 dX12_net_2 (fun H locs hI => ?_)
  obtain ⟨σ_1, e_m_1, h⟩ := nm_some h
  rw [← e_m_1] at hI; clear e_m_1
  refine lv_aload_n Γ.1.1 Γ.1.2.1 dX12_net_5 rfl (lv_at hl 0 rfl) ?_
  refine lv_aload_n Γ.1.1 Γ.1.2.1 dX12_net_6 rfl (lv_at hl 0 rfl) ?_
  refine get_X12_taped Γ hI gw_214 dX12_net_7 ?_
  refine put_X12_size Γ hI gw_216 dX12_net_10 (fun H locs hI => ?_)
  obtain ⟨σ_2, e_m_2, h⟩ := nm_some h
  rw [← e_m_2] at hI; clear e_m_2
  refine lv_aload_n Γ.1.1 Γ.1.2.1 dX12_net_13 rfl (lv_at hl 0 rfl) ?_
  refine lv_iconst (v := (0 : Int32)) Γ.1.1 Γ.1.2.1 dX12_net_14 (by decide) ?_
  refine put_X12_taped Γ hI gw_214 dX12_net_15 (fun H locs hI => ?_)
  obtain ⟨σ_3, e_m_3, h⟩ := nm_some h
  rw [← e_m_3] at hI; clear e_m_3
  refine lv_aload_n Γ.1.1 Γ.1.2.1 dX12_net_18 rfl (lv_at hl 0 rfl) ?_
  refine lv_iconst (v := (0 : Int32)) Γ.1.1 Γ.1.2.1 dX12_net_19 (by decide) ?_
  refine put_X12_fault Γ hI gw_230 dX12_net_20 (fun H locs hI => ?_)
  obtain ⟨σ_4, e_m_4, h⟩ := nm_some h
  rw [← e_m_4] at hI; clear e_m_4
  refine lv_aload_n Γ.1.1 Γ.1.2.1 dX12_net_23 rfl (lv_at hl 0 rfl) ?_
  refine lv_iconst (v := (0 : Int32)) Γ.1.1 Γ.1.2.1 dX12_net_24 (by decide) ?_
  refine put_X12_to Γ hI gw_217 dX12_net_25 (fun H locs hI => ?_)
  obtain ⟨σ_5, e_m_5, h⟩ := nm_some h
  rw [← e_m_5] at hI; clear e_m_5
  refine lv_iconst (v := (0 : Int32)) Γ.1.1 Γ.1.2.1 dX12_net_28 (by decide) ?_
  refine lv_istore_n (lv' := [(1, .int (0 : Int32)), (0, .ref (X.2.1 + 60))]) Γ.1.1 Γ.1.2.1 dX12_net_29 rfl hl (by decide) rfl (fun ls hl => ?_)
  refine lv_iconst (v := (0 : Int32)) Γ.1.1 Γ.1.2.1 dX12_net_30 (by decide) ?_
  refine lv_istore_n (lv' := [(2, .int (0 : Int32)), (1, .int (0 : Int32)), (0, .ref (X.2.1 + 60))]) Γ.1.1 Γ.1.2.1 dX12_net_31 rfl hl (by decide) rfl (fun ls hl => ?_)
  exact s_X12_net_L32 σr x Γ (0 : Int32) _ σ_5 (0 : Int32) _ _ _ hI (lv_sub hl [2, 1, 0] rfl) h
set_option maxRecDepth 20000 in
set_option maxHeartbeats 4000000 in
theorem S_X12_fault (l : Launch) (X : GX) (σ : GM) (σr : GM) (x : Int32) (h : f_X12_fault σ = some (σr, x)) : gMet l yX12_fault cX12_fault 1 (some .int) ({ frames := 0, cells := 0, slots := 0, locals := 0 } : Room) X σ [.ref (X.2.1 + 60)] (gQi X σr x) := by
  unfold f_X12_fault at h
  refine gMet_of (lv := [(0, .ref (X.2.1 + 60))]) (by decide) rfl (Nat.le_of_ble_eq_true rfl) rfl (fun p e s m below meth c H ls Γ hI hl => ?_)
  refine lv_aload_n Γ.1.1 Γ.1.2.1 dX12_fault_0 rfl (lv_at hl 0 rfl) ?_
  refine lv_iconst (v := (0 : Int32)) Γ.1.1 Γ.1.2.1 dX12_fault_1 (by decide) ?_
  refine put_X12_thrown Γ hI gw_211 dX12_fault_2 (fun H locs hI => ?_)
  obtain ⟨σ_1, e_m_1, h⟩ := nm_some h
  rw [← e_m_1] at hI; clear e_m_1
  refine lv_aload_n Γ.1.1 Γ.1.2.1 dX12_fault_5 rfl (lv_at hl 0 rfl) ?_
  refine get_X12_fault Γ hI gw_230 dX12_fault_6 ?_
  exact g_iret Γ hI dX12_fault_9 (Prod.mk.inj (Option.some.inj h)).1 (Prod.mk.inj (Option.some.inj h)).2
set_option maxRecDepth 20000 in
set_option maxHeartbeats 4000000 in
theorem S_X12_there (l : Launch) (X : GX) (σ : GM) (x : Int32) (h : f_X12_there σ = some x) : gMet l yX12_there cX12_there 1 (some .int) ({ frames := 0, cells := 0, slots := 0, locals := 0 } : Room) X σ [.ref (X.2.1 + 60)] (gQi X σ x) := by
  unfold f_X12_there at h
  refine gMet_of (lv := [(0, .ref (X.2.1 + 60))]) (by decide) rfl (Nat.le_of_ble_eq_true rfl) rfl (fun p e s m below meth c H ls Γ hI hl => ?_)
  refine lv_aload_n Γ.1.1 Γ.1.2.1 dX12_there_0 rfl (lv_at hl 0 rfl) ?_
  refine get_X12_now Γ hI gw_244 dX12_there_1 ?_
  refine lv_iconst (v := (1 : Int32)) Γ.1.1 Γ.1.2.1 dX12_there_4 (by decide) ?_
  obtain ⟨hb_1, h⟩ := bnd_some h
  refine g_iald Γ hI sh_62 hb_1 dX12_there_5 ?_
  exact g_iret Γ hI dX12_there_6 rfl (Option.some.inj h)
set_option maxRecDepth 20000 in
set_option maxHeartbeats 4000000 in
theorem S_X12_isThere (l : Launch) (X : GX) (σ : GM) (v1 : Int32) (x : Int32) (h : f_X12_isThere σ v1 = some x) : gMet l yX12_isThere cX12_isThere 2 (some .boolean) ({ frames := 1, cells := 0, slots := 0, locals := 22 } : Room) X σ [.ref (X.2.1 + 60), .int v1] (gQi X σ x) := by
  unfold f_X12_isThere at h
  refine gMet_of (lv := [(0, .ref (X.2.1 + 60)), (1, .int v1)]) (by decide) rfl (Nat.le_of_ble_eq_true rfl) rfl (fun p e s m below meth c H ls Γ hI hl => ?_)
  refine lv_iload_n Γ.1.1 Γ.1.2.1 dX12_isThere_0 rfl (lv_at hl 1 rfl) ?_
  refine lv_iconst (v := (0 : Int32)) Γ.1.1 Γ.1.2.1 dX12_isThere_1 (by decide) ?_
  refine lv_bipush (v := (11 : Int32)) Γ.1.1 Γ.1.2.1 dX12_isThere_2 (by decide) ?_
  obtain ⟨r_1, hr_1, h⟩ := ob_some h
  refine g_ci Γ hI (g_runS (As := [.int v1, .int (0 : Int32), .int (11 : Int32)]) Γ hI (S_X12_isIn l X σ v1 (0 : Int32) (11 : Int32) r_1 hr_1) mf_X12_isIn gw_239 rfl rfl ⟨Nat.le_of_ble_eq_true rfl, Nat.le_of_ble_eq_true rfl⟩ rfl hl.1 rfl (Nat.le_of_ble_eq_true rfl) dX12_isThere_4 ⟨Nat.zero_le _, Nat.zero_le _⟩) (fun H locs hI => ?_)
  clear hr_1
  refine lv_if_eq (tgt := 25) Γ.1.1 Γ.1.2.1 dX12_isThere_7 (by decide) (fun c_3 => ?_) (fun c_3 => ?_)
  · replace h := ite_pos c_3 h; clear c_3
    refine lv_iconst (v := (0 : Int32)) Γ.1.1 Γ.1.2.1 dX12_isThere_25 (by decide) ?_
    exact g_zret Γ hI dX12_isThere_26 rfl (Option.some.inj h)
  · replace h := ite_neg c_3 h; clear c_3
    refine lv_aload_n Γ.1.1 Γ.1.2.1 dX12_isThere_10 rfl (lv_at hl 0 rfl) ?_
    obtain ⟨r_4, hr_4, h⟩ := ob_some h
    refine g_ci Γ hI (g_runV (As := []) Γ hI (S_X12_there l X σ r_4 hr_4) mf_X12_there (recv_X12 Γ hI) gw_250 rfl rfl ⟨Nat.le_of_ble_eq_true rfl, Nat.le_of_ble_eq_true rfl⟩ rfl hl.1 rfl (Nat.le_of_ble_eq_true rfl) dX12_isThere_11 ⟨Nat.zero_le _, Nat.zero_le _⟩) (fun H locs hI => ?_)
    clear hr_4
    refine lv_iload_n Γ.1.1 Γ.1.2.1 dX12_isThere_14 rfl (lv_at hl 1 rfl) ?_
    obtain ⟨r_6, hr_6, h⟩ := ob_some h
    refine g_ci Γ hI (g_runS (As := [.int r_4, .int v1]) Γ hI (S_X12_has l X σ r_4 v1 r_6 hr_6) mf_X12_has gw_212 rfl rfl ⟨Nat.le_of_ble_eq_true rfl, Nat.le_of_ble_eq_true rfl⟩ rfl hl.1 rfl (Nat.le_of_ble_eq_true rfl) dX12_isThere_15 ⟨Nat.zero_le _, Nat.zero_le _⟩) (fun H locs hI => ?_)
    clear hr_6
    refine lv_if_eq (tgt := 25) Γ.1.1 Γ.1.2.1 dX12_isThere_18 (by decide) (fun c_8 => ?_) (fun c_8 => ?_)
    · replace h := ite_pos c_8 h; clear c_8
      refine lv_iconst (v := (0 : Int32)) Γ.1.1 Γ.1.2.1 dX12_isThere_25 (by decide) ?_
      exact g_zret Γ hI dX12_isThere_26 rfl (Option.some.inj h)
    · replace h := ite_neg c_8 h; clear c_8
      refine lv_iconst (v := (1 : Int32)) Γ.1.1 Γ.1.2.1 dX12_isThere_21 (by decide) ?_
      refine lv_goto (tgt := 26) Γ.1.1 Γ.1.2.1 dX12_isThere_22 (by decide) ?_
      exact g_zret Γ hI dX12_isThere_26 rfl (Option.some.inj h)
set_option maxRecDepth 20000 in
set_option maxHeartbeats 4000000 in
theorem S_X12_areThere (l : Launch) (X : GX) (σ : GM) (v1 : Int32) (x : Int32) (h : f_X12_areThere σ v1 = some x) : gMet l yX12_areThere cX12_areThere 2 (some .boolean) ({ frames := 1, cells := 0, slots := 0, locals := 20 } : Room) X σ [.ref (X.2.1 + 60), .int v1] (gQi X σ x) := by
  unfold f_X12_areThere at h
  refine gMet_of (lv := [(0, .ref (X.2.1 + 60)), (1, .int v1)]) (by decide) rfl (Nat.le_of_ble_eq_true rfl) rfl (fun p e s m below meth c H ls Γ hI hl => ?_)
  refine lv_iload_n Γ.1.1 Γ.1.2.1 dX12_areThere_0 rfl (lv_at hl 1 rfl) ?_
  refine lv_if_lt (tgt := 19) Γ.1.1 Γ.1.2.1 dX12_areThere_1 (by decide) (fun c_1 => ?_) (fun c_1 => ?_)
  · replace h := ite_pos c_1 h; clear c_1
    refine lv_iconst (v := (0 : Int32)) Γ.1.1 Γ.1.2.1 dX12_areThere_19 (by decide) ?_
    exact g_zret Γ hI dX12_areThere_20 rfl (Option.some.inj h)
  · replace h := ite_neg c_1 h; clear c_1
    refine lv_iload_n Γ.1.1 Γ.1.2.1 dX12_areThere_4 rfl (lv_at hl 1 rfl) ?_
    refine lv_aload_n Γ.1.1 Γ.1.2.1 dX12_areThere_5 rfl (lv_at hl 0 rfl) ?_
    obtain ⟨r_2, hr_2, h⟩ := ob_some h
    refine g_ci Γ hI (g_runV (As := []) Γ hI (S_X12_there l X σ r_2 hr_2) mf_X12_there (recv_X12 Γ hI) gw_250 rfl rfl ⟨Nat.le_of_ble_eq_true rfl, Nat.le_of_ble_eq_true rfl⟩ rfl hl.1 rfl (Nat.le_of_ble_eq_true rfl) dX12_areThere_6 ⟨Nat.zero_le _, Nat.zero_le _⟩) (fun H locs hI => ?_)
    clear hr_2
    refine lv_iconst (v := (-1 : Int32)) Γ.1.1 Γ.1.2.1 dX12_areThere_9 (by decide) ?_
    refine lv_ixor Γ.1.1 Γ.1.2.1 dX12_areThere_10 ?_
    refine lv_iand Γ.1.1 Γ.1.2.1 dX12_areThere_11 ?_
    refine lv_if_ne (tgt := 19) Γ.1.1 Γ.1.2.1 dX12_areThere_12 (by decide) (fun c_4 => ?_) (fun c_4 => ?_)
    · replace h := ite_neg c_4 h; clear c_4
      refine lv_iconst (v := (0 : Int32)) Γ.1.1 Γ.1.2.1 dX12_areThere_19 (by decide) ?_
      exact g_zret Γ hI dX12_areThere_20 rfl (Option.some.inj h)
    · replace h := ite_pos c_4 h; clear c_4
      refine lv_iconst (v := (1 : Int32)) Γ.1.1 Γ.1.2.1 dX12_areThere_15 (by decide) ?_
      refine lv_goto (tgt := 20) Γ.1.1 Γ.1.2.1 dX12_areThere_16 (by decide) ?_
      exact g_zret Γ hI dX12_areThere_20 rfl (Option.some.inj h)
set_option maxRecDepth 20000 in
set_option maxHeartbeats 4000000 in
theorem s_X12_weightOf_L4 {p : Program} {l : Launch} {e : Env} {s : State} {m : MethodId} {args : Array Value} {below : List Frame} {meth : Method} {c : Code} {X : GX} (σ : GM) (x : Int32) (Γ : gC X p m meth c cX12_weightOf 4 s args RX12 (some .int)) (v1 : Int32) :
    ∀ (k : Nat) (v2 : Int32) (v3 : Int32) (H : Heap) (locs : List Loc) (ls : Array Slot), gI X σ s H locs → lv_has ls 4 [(0, .ref (X.2.1 + 60)), (1, .int v1), (2, .int v2), (3, .int v3)] → f_X12_weightOf_L4 σ v1 k v2 v3 = some x →
    W p l e ({ frames := 1, cells := 0, slots := 0, locals := 21 } : Room) s m args below meth c H locs 0 0 (MQ below (gQi X σ x) args s 0 0 (gA X)) (F0 m 4 ls []) := by
  intro k
  induction k with
  | zero =>
    intro v2 v3 H locs ls hI hl h
    exact absurd h (by simp [f_X12_weightOf_L4])
  | succ k ih =>
    intro v2 v3 H locs ls hI hl h
    unfold f_X12_weightOf_L4 at h
    refine lv_iload_n Γ.1.1 Γ.1.2.1 dX12_weightOf_4 rfl (lv_at hl 3 rfl) ?_
    refine lv_bipush (v := (12 : Int32)) Γ.1.1 Γ.1.2.1 dX12_weightOf_5 (by decide) ?_
    refine lv_icmp_ge (tgt := 35) Γ.1.1 Γ.1.2.1 dX12_weightOf_7 (by decide) (fun c_1 => ?_) (fun c_1 => ?_)
    · replace h := ite_pos c_1 h; clear c_1
      refine lv_iload_n Γ.1.1 Γ.1.2.1 dX12_weightOf_35 rfl (lv_at hl 2 rfl) ?_
      exact g_iret Γ hI dX12_weightOf_36 rfl (Option.some.inj h)
    · replace h := ite_neg c_1 h; clear c_1
      refine lv_iload_n Γ.1.1 Γ.1.2.1 dX12_weightOf_10 rfl (lv_at hl 1 rfl) ?_
      refine lv_iload_n Γ.1.1 Γ.1.2.1 dX12_weightOf_11 rfl (lv_at hl 3 rfl) ?_
      obtain ⟨r_2, hr_2, h⟩ := ob_some h
      refine g_ci Γ hI (g_runS (As := [.int v1, .int v3]) Γ hI (S_X12_has l X σ v1 v3 r_2 hr_2) mf_X12_has gw_212 rfl rfl ⟨Nat.le_of_ble_eq_true rfl, Nat.le_of_ble_eq_true rfl⟩ rfl hl.1 rfl (Nat.le_of_ble_eq_true rfl) dX12_weightOf_12 ⟨Nat.zero_le _, Nat.zero_le _⟩) (fun H locs hI => ?_)
      clear hr_2
      refine lv_if_eq (tgt := 29) Γ.1.1 Γ.1.2.1 dX12_weightOf_15 (by decide) (fun c_4 => ?_) (fun c_4 => ?_)
      · replace h := ite_pos c_4 h; clear c_4
        obtain ⟨v3_5, e_v3_5, h⟩ := nm_some h
        refine lv_iinc (v := v3_5) (lv' := [(3, .int v3_5), (0, .ref (X.2.1 + 60)), (1, .int v1), (2, .int v2)]) Γ.1.1 Γ.1.2.1 dX12_weightOf_29 hl (k := 3) rfl (by rw [e_v3_5]; rfl) (by decide) rfl (fun ls hl => ?_)
        clear e_v3_5
        refine lv_goto (tgt := 4) Γ.1.1 Γ.1.2.1 dX12_weightOf_32 (by decide) ?_
        exact ih v2 v3_5 _ _ _ hI (lv_sub hl [1, 2, 3, 0] rfl) h
      · replace h := ite_neg c_4 h; clear c_4
        refine lv_iload_n Γ.1.1 Γ.1.2.1 dX12_weightOf_18 rfl (lv_at hl 2 rfl) ?_
        refine lv_aload_n Γ.1.1 Γ.1.2.1 dX12_weightOf_19 rfl (lv_at hl 0 rfl) ?_
        refine get_X12_now Γ hI gw_244 dX12_weightOf_20 ?_
        refine lv_iconst (v := (3 : Int32)) Γ.1.1 Γ.1.2.1 dX12_weightOf_23 (by decide) ?_
        refine lv_iload_n Γ.1.1 Γ.1.2.1 dX12_weightOf_24 rfl (lv_at hl 3 rfl) ?_
        refine lv_iadd Γ.1.1 Γ.1.2.1 dX12_weightOf_25 ?_
        refine lv_topi (fun i_6 e_i_6 => ?_)
        replace h := nm_at e_i_6 h; clear e_i_6
        obtain ⟨hb_7, h⟩ := bnd_some h
        refine g_iald Γ hI sh_62 hb_7 dX12_weightOf_26 ?_
        refine lv_iadd Γ.1.1 Γ.1.2.1 dX12_weightOf_27 ?_
        refine lv_topi (fun v2_8 e_v2_8 => ?_)
        replace h := nm_at e_v2_8 h; clear e_v2_8
        refine lv_istore_n (lv' := [(2, .int v2_8), (0, .ref (X.2.1 + 60)), (1, .int v1), (3, .int v3)]) Γ.1.1 Γ.1.2.1 dX12_weightOf_28 rfl hl (by decide) rfl (fun ls hl => ?_)
        obtain ⟨v3_9, e_v3_9, h⟩ := nm_some h
        refine lv_iinc (v := v3_9) (lv' := [(3, .int v3_9), (2, .int v2_8), (0, .ref (X.2.1 + 60)), (1, .int v1)]) Γ.1.1 Γ.1.2.1 dX12_weightOf_29 hl (k := 3) rfl (by rw [e_v3_9]; rfl) (by decide) rfl (fun ls hl => ?_)
        clear e_v3_9
        refine lv_goto (tgt := 4) Γ.1.1 Γ.1.2.1 dX12_weightOf_32 (by decide) ?_
        exact ih v2_8 v3_9 _ _ _ hI (lv_sub hl [2, 3, 1, 0] rfl) h
