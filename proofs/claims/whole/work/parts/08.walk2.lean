/-! WALKS 2 (by gen.py) -/
set_option maxRecDepth 20000 in
set_option maxHeartbeats 4000000 in
theorem s_X0_run_L7 {p : Program} {l : Launch} {e : Env} {s : State} {m : MethodId} {args : Array Value} {below : List Frame} {meth : Method} {c : Code} {X : GX} (σr : GM) (Γ : gC X p m meth c cX0_run 5 s args RX0 none) :
    ∀ (k : Nat) (σ : GM) (v3 : Int32) (H : Heap) (locs : List Loc) (ls : Array Slot), gI X σ s H locs → lv_has ls 5 [(0, .ref (X.2.1 + 57)), (1, .ref (X.2.1 + 8)), (2, .ref (X.2.1 + 49)), (3, .int v3)] → f_X0_run_L7 k σ v3 = some σr →
    W p l e ({ frames := 5, cells := 0, slots := 0, locals := 117 } : Room) s m args below meth c H locs 0 0 (MQ below (gQv X σr) args s 0 0 (gA X)) (F0 m 7 ls []) := by
  intro k
  induction k with
  | zero =>
    intro σ v3 H locs ls hI hl h
    exact absurd h (by simp [f_X0_run_L7])
  | succ k ih =>
    intro σ v3 H locs ls hI hl h
    unfold f_X0_run_L7 at h
    refine lv_iload_n Γ.1.1 Γ.1.2.1 dX0_run_7 rfl (lv_at hl 3 rfl) ?_
    refine lv_bipush (v := (12 : Int32)) Γ.1.1 Γ.1.2.1 dX0_run_8 (by decide) ?_
    refine lv_icmp_ge (tgt := 69) Γ.1.1 Γ.1.2.1 dX0_run_10 (by decide) (fun c_3 => ?_) (fun c_3 => ?_)
    · replace h := ite_pos c_3 h; clear c_3
      exact s_X0_run_L69 σr Γ σ _ _ _ hI (lv_sub hl [0, 1, 2] rfl) h
    · replace h := ite_neg c_3 h; clear c_3
      refine lv_aload_n Γ.1.1 Γ.1.2.1 dX0_run_13 rfl (lv_at hl 0 rfl) ?_
      refine get_X0_left Γ hI gw_20 dX0_run_14 ?_
      refine lv_if_eq (tgt := 69) Γ.1.1 Γ.1.2.1 dX0_run_17 (by decide) (fun c_6 => ?_) (fun c_6 => ?_)
      · replace h := ite_pos c_6 h; clear c_6
        exact s_X0_run_L69 σr Γ σ _ _ _ hI (lv_sub hl [0, 1, 2] rfl) h
      · replace h := ite_neg c_6 h; clear c_6
        refine lv_aload_n Γ.1.1 Γ.1.2.1 dX0_run_20 rfl (lv_at hl 0 rfl) ?_
        refine lv_aload_n Γ.1.1 Γ.1.2.1 dX0_run_21 rfl (lv_at hl 1 rfl) ?_
        obtain ⟨σ_8, hr_7, h⟩ := ob_some h
        refine g_cv Γ hI (g_runV (As := [.ref (X.2.1 + 8)]) Γ hI (S_X0_strip l X σ σ_8 hr_7) mf_X0_strip (recv_X0 Γ hI) gw_48 rfl rfl ⟨Nat.le_of_ble_eq_true rfl, Nat.le_of_ble_eq_true rfl⟩ rfl hl.1 rfl (Nat.le_of_ble_eq_true rfl) dX0_run_22 ⟨Nat.zero_le _, Nat.zero_le _⟩) (fun H locs hI => ?_)
        clear hr_7
        refine lv_aload_n Γ.1.1 Γ.1.2.1 dX0_run_25 rfl (lv_at hl 0 rfl) ?_
        refine get_X0_left Γ hI gw_20 dX0_run_26 ?_
        refine lv_if_eq (tgt := 63) Γ.1.1 Γ.1.2.1 dX0_run_29 (by decide) (fun c_9 => ?_) (fun c_9 => ?_)
        · replace h := ite_pos c_9 h; clear c_9
          obtain ⟨v3_10, e_v3_10, h⟩ := nm_some h
          refine lv_iinc (v := v3_10) (lv' := [(3, .int v3_10), (0, .ref (X.2.1 + 57)), (1, .ref (X.2.1 + 8)), (2, .ref (X.2.1 + 49))]) Γ.1.1 Γ.1.2.1 dX0_run_63 hl (k := 3) rfl (by rw [e_v3_10]; rfl) (by decide) rfl (fun ls hl => ?_)
          clear e_v3_10
          refine lv_goto (tgt := 7) Γ.1.1 Γ.1.2.1 dX0_run_66 (by decide) ?_
          exact ih σ_8 v3_10 _ _ _ hI (lv_sub hl [1, 2, 3, 0] rfl) h
        · replace h := ite_neg c_9 h; clear c_9
          refine lv_aload_n Γ.1.1 Γ.1.2.1 dX0_run_32 rfl (lv_at hl 0 rfl) ?_
          refine lv_aload_n Γ.1.1 Γ.1.2.1 dX0_run_33 rfl (lv_at hl 1 rfl) ?_
          refine lv_aload_n Γ.1.1 Γ.1.2.1 dX0_run_34 rfl (lv_at hl 2 rfl) ?_
          obtain ⟨r_11, hr_11, h⟩ := ob_some h
          refine g_ci Γ hI (g_runV (As := [.ref (X.2.1 + 8), .ref (X.2.1 + 49)]) Γ hI (S_X0_leastOpenRing l X σ_8 r_11 hr_11) mf_X0_leastOpenRing (recv_X0 Γ hI) gw_49 rfl rfl ⟨Nat.le_of_ble_eq_true rfl, Nat.le_of_ble_eq_true rfl⟩ rfl hl.1 rfl (Nat.le_of_ble_eq_true rfl) dX0_run_35 ⟨Nat.zero_le _, Nat.zero_le _⟩) (fun H locs hI => ?_)
          clear hr_11
          refine lv_istore (lv' := [(4, .int r_11), (0, .ref (X.2.1 + 57)), (1, .ref (X.2.1 + 8)), (2, .ref (X.2.1 + 49)), (3, .int v3)]) Γ.1.1 Γ.1.2.1 dX0_run_38 hl (by decide) rfl (fun ls hl => ?_)
          refine lv_iload Γ.1.1 Γ.1.2.1 dX0_run_40 (lv_at hl 0 rfl) ?_
          refine lv_if_eq (tgt := 54) Γ.1.1 Γ.1.2.1 dX0_run_42 (by decide) (fun c_13 => ?_) (fun c_13 => ?_)
          · replace h := ite_pos c_13 h; clear c_13
            refine lv_aload_n Γ.1.1 Γ.1.2.1 dX0_run_54 rfl (lv_at hl 1 rfl) ?_
            refine lv_aload_n Γ.1.1 Γ.1.2.1 dX0_run_55 rfl (lv_at hl 2 rfl) ?_
            obtain ⟨σ_15, hr_14, h⟩ := ob_some h
            refine g_cv Γ hI (g_runV (As := [.ref (X.2.1 + 8)]) Γ hI (S_X0_takeFromAll l X σ_8 σ_15 hr_14) mf_X0_takeFromAll (recv_X0 Γ hI) gw_50 rfl rfl ⟨Nat.le_of_ble_eq_true rfl, Nat.le_of_ble_eq_true rfl⟩ rfl hl.1 rfl (Nat.le_of_ble_eq_true rfl) dX0_run_56 ⟨Nat.zero_le _, Nat.zero_le _⟩) (fun H locs hI => ?_)
            clear hr_14
            refine lv_aload_n Γ.1.1 Γ.1.2.1 dX0_run_59 rfl (lv_at hl 1 rfl) ?_
            obtain ⟨σ_17, hr_16, h⟩ := ob_some h
            refine g_cv Γ hI (g_runV (As := []) Γ hI (S_X0_pileWeightless l X σ_15 σ_17 hr_16) mf_X0_pileWeightless (recv_X0 Γ hI) gw_51 rfl rfl ⟨Nat.le_of_ble_eq_true rfl, Nat.le_of_ble_eq_true rfl⟩ rfl hl.1 rfl (Nat.le_of_ble_eq_true rfl) dX0_run_60 ⟨Nat.zero_le _, Nat.zero_le _⟩) (fun H locs hI => ?_)
            clear hr_16
            obtain ⟨v3_18, e_v3_18, h⟩ := nm_some h
            refine lv_iinc (v := v3_18) (lv' := [(3, .int v3_18), (4, .int r_11), (0, .ref (X.2.1 + 57)), (1, .ref (X.2.1 + 8)), (2, .ref (X.2.1 + 49))]) Γ.1.1 Γ.1.2.1 dX0_run_63 hl (k := 4) rfl (by rw [e_v3_18]; rfl) (by decide) rfl (fun ls hl => ?_)
            clear e_v3_18
            refine lv_goto (tgt := 7) Γ.1.1 Γ.1.2.1 dX0_run_66 (by decide) ?_
            exact ih σ_17 v3_18 _ _ _ hI (lv_sub hl [2, 3, 4, 0] rfl) h
          · replace h := ite_neg c_13 h; clear c_13
            refine lv_aload_n Γ.1.1 Γ.1.2.1 dX0_run_45 rfl (lv_at hl 1 rfl) ?_
            refine lv_iload Γ.1.1 Γ.1.2.1 dX0_run_46 (lv_at hl 0 rfl) ?_
            obtain ⟨σ_20, hr_19, h⟩ := ob_some h
            refine g_cv Γ hI (g_runV (As := [.int r_11]) Γ hI (S_X0_takeFromRing l X σ_8 r_11 σ_20 hr_19) mf_X0_takeFromRing (recv_X0 Γ hI) gw_52 rfl rfl ⟨Nat.le_of_ble_eq_true rfl, Nat.le_of_ble_eq_true rfl⟩ rfl hl.1 rfl (Nat.le_of_ble_eq_true rfl) dX0_run_48 ⟨Nat.zero_le _, Nat.zero_le _⟩) (fun H locs hI => ?_)
            clear hr_19
            refine lv_goto (tgt := 59) Γ.1.1 Γ.1.2.1 dX0_run_51 (by decide) ?_
            refine lv_aload_n Γ.1.1 Γ.1.2.1 dX0_run_59 rfl (lv_at hl 1 rfl) ?_
            obtain ⟨σ_22, hr_21, h⟩ := ob_some h
            refine g_cv Γ hI (g_runV (As := []) Γ hI (S_X0_pileWeightless l X σ_20 σ_22 hr_21) mf_X0_pileWeightless (recv_X0 Γ hI) gw_51 rfl rfl ⟨Nat.le_of_ble_eq_true rfl, Nat.le_of_ble_eq_true rfl⟩ rfl hl.1 rfl (Nat.le_of_ble_eq_true rfl) dX0_run_60 ⟨Nat.zero_le _, Nat.zero_le _⟩) (fun H locs hI => ?_)
            clear hr_21
            obtain ⟨v3_23, e_v3_23, h⟩ := nm_some h
            refine lv_iinc (v := v3_23) (lv' := [(3, .int v3_23), (4, .int r_11), (0, .ref (X.2.1 + 57)), (1, .ref (X.2.1 + 8)), (2, .ref (X.2.1 + 49))]) Γ.1.1 Γ.1.2.1 dX0_run_63 hl (k := 4) rfl (by rw [e_v3_23]; rfl) (by decide) rfl (fun ls hl => ?_)
            clear e_v3_23
            refine lv_goto (tgt := 7) Γ.1.1 Γ.1.2.1 dX0_run_66 (by decide) ?_
            exact ih σ_22 v3_23 _ _ _ hI (lv_sub hl [2, 3, 4, 0] rfl) h
set_option maxRecDepth 20000 in
set_option maxHeartbeats 4000000 in
theorem S_X0_run (l : Launch) (X : GX) (σ : GM) (σr : GM) (h : f_X0_run σ = some σr) : gMet l yX0_run cX0_run 5 none ({ frames := 5, cells := 0, slots := 0, locals := 117 } : Room) X σ [.ref (X.2.1 + 57), .ref (X.2.1 + 8), .ref (X.2.1 + 49)] (gQv X σr) := by
  unfold f_X0_run at h
  refine gMet_of (lv := [(0, .ref (X.2.1 + 57)), (1, .ref (X.2.1 + 8)), (2, .ref (X.2.1 + 49))]) (by decide) rfl (Nat.le_of_ble_eq_true rfl) rfl (fun p e s m below meth c H ls Γ hI hl => ?_)
  refine lv_aload_n Γ.1.1 Γ.1.2.1 dX0_run_0 rfl (lv_at hl 0 rfl) ?_
  refine lv_aload_n Γ.1.1 Γ.1.2.1 dX0_run_1 rfl (lv_at hl 1 rfl) ?_
  obtain ⟨σ_2, hr_1, h⟩ := ob_some h
  refine g_cv Γ hI (g_runV (As := [.ref (X.2.1 + 8)]) Γ hI (S_X0_begin l X σ σ_2 hr_1) mf_X0_begin (recv_X0 Γ hI) gw_46 rfl rfl ⟨Nat.le_of_ble_eq_true rfl, Nat.le_of_ble_eq_true rfl⟩ rfl hl.1 rfl (Nat.le_of_ble_eq_true rfl) dX0_run_2 ⟨Nat.zero_le _, Nat.zero_le _⟩) (fun H locs hI => ?_)
  clear hr_1
  refine lv_iconst (v := (0 : Int32)) Γ.1.1 Γ.1.2.1 dX0_run_5 (by decide) ?_
  refine lv_istore_n (lv' := [(3, .int (0 : Int32)), (0, .ref (X.2.1 + 57)), (1, .ref (X.2.1 + 8)), (2, .ref (X.2.1 + 49))]) Γ.1.1 Γ.1.2.1 dX0_run_6 rfl hl (by decide) rfl (fun ls hl => ?_)
  exact s_X0_run_L7 σr Γ _ σ_2 (0 : Int32) _ _ _ hI (lv_sub hl [1, 2, 3, 0] rfl) h
set_option maxRecDepth 20000 in
set_option maxHeartbeats 4000000 in
theorem s_X0_commonDivisor_L13 {p : Program} {l : Launch} {e : Env} {s : State} {m : MethodId} {args : Array Value} {below : List Frame} {meth : Method} {c : Code} {X : GX} (σ : GM) (x : Int64) (Γ : gC X p m meth c cX0_commonDivisor 8 s args RX0 (some .long)) :
    ∀ (k : Nat) (v1 : Int64) (v3 : Int64) (v5 : Int32) (H : Heap) (locs : List Loc) (ls : Array Slot), gI X σ s H locs → lv_has ls 8 [(1, .long v1), (3, .long v3), (5, .int v5)] → f_X0_commonDivisor_L13 σ k v1 v3 v5 = some x →
    W p l e ({ frames := 0, cells := 0, slots := 0, locals := 0 } : Room) s m args below meth c H locs 0 0 (MQ below (gQl X σ x) args s 0 0 (gA X)) (F0 m 13 ls []) := by
  intro k
  induction k with
  | zero =>
    intro v1 v3 v5 H locs ls hI hl h
    exact absurd h (by simp [f_X0_commonDivisor_L13])
  | succ k ih =>
    intro v1 v3 v5 H locs ls hI hl h
    unfold f_X0_commonDivisor_L13 at h
    refine lv_iload Γ.1.1 Γ.1.2.1 dX0_commonDivisor_13 (lv_at hl 2 rfl) ?_
    refine lv_sipush (v := (200 : Int32)) Γ.1.1 Γ.1.2.1 dX0_commonDivisor_15 (by decide) ?_
    refine lv_icmp_ge (tgt := 43) Γ.1.1 Γ.1.2.1 dX0_commonDivisor_18 (by decide) (fun c_3 => ?_) (fun c_3 => ?_)
    · replace h := ite_pos c_3 h; clear c_3
      refine lv_lload_n Γ.1.1 Γ.1.2.1 dX0_commonDivisor_43 rfl (lv_at hl 0 rfl) ?_
      exact g_lret Γ hI dX0_commonDivisor_44 rfl (Option.some.inj h)
    · replace h := ite_neg c_3 h; clear c_3
      refine lv_lload_n Γ.1.1 Γ.1.2.1 dX0_commonDivisor_21 rfl (lv_at hl 1 rfl) ?_
      refine lv_lconst (v := (0 : Int64)) Γ.1.1 Γ.1.2.1 dX0_commonDivisor_22 (by decide) ?_
      refine W.lcmp Γ.1.1 Γ.1.2.1 dX0_commonDivisor_23 ?_
      refine lv_if_eq (tgt := 43) Γ.1.1 Γ.1.2.1 dX0_commonDivisor_24 (by decide) (fun c_4 => ?_) (fun c_4 => ?_)
      · replace h := ite_pos c_4 h; clear c_4
        refine lv_lload_n Γ.1.1 Γ.1.2.1 dX0_commonDivisor_43 rfl (lv_at hl 0 rfl) ?_
        exact g_lret Γ hI dX0_commonDivisor_44 rfl (Option.some.inj h)
      · replace h := ite_neg c_4 h; clear c_4
        refine lv_lload_n Γ.1.1 Γ.1.2.1 dX0_commonDivisor_27 rfl (lv_at hl 0 rfl) ?_
        refine lv_lload_n Γ.1.1 Γ.1.2.1 dX0_commonDivisor_28 rfl (lv_at hl 1 rfl) ?_
        obtain ⟨hz_5, h⟩ := nzl_some h
        refine lv_lrem Γ.1.1 Γ.1.2.1 dX0_commonDivisor_29 hz_5 ?_
        refine lv_topl (fun v6_6 e_v6_6 => ?_)
        replace h := nm_at e_v6_6 h; clear e_v6_6
        refine lv_lstore (lv' := [(6, .long v6_6), (1, .long v1), (3, .long v3), (5, .int v5)]) Γ.1.1 Γ.1.2.1 dX0_commonDivisor_30 hl (by decide) rfl (fun ls hl => ?_)
        refine lv_lload_n Γ.1.1 Γ.1.2.1 dX0_commonDivisor_32 rfl (lv_at hl 2 rfl) ?_
        refine lv_lstore_n (lv' := [(1, .long v3), (6, .long v6_6), (3, .long v3), (5, .int v5)]) Γ.1.1 Γ.1.2.1 dX0_commonDivisor_33 rfl hl (by decide) rfl (fun ls hl => ?_)
        refine lv_lload Γ.1.1 Γ.1.2.1 dX0_commonDivisor_34 (lv_at hl 1 rfl) ?_
        refine lv_lstore_n (lv' := [(3, .long v6_6), (1, .long v3), (6, .long v6_6), (5, .int v5)]) Γ.1.1 Γ.1.2.1 dX0_commonDivisor_36 rfl hl (by decide) rfl (fun ls hl => ?_)
        obtain ⟨v5_7, e_v5_7, h⟩ := nm_some h
        refine lv_iinc (v := v5_7) (lv' := [(5, .int v5_7), (3, .long v6_6), (1, .long v3), (6, .long v6_6)]) Γ.1.1 Γ.1.2.1 dX0_commonDivisor_37 hl (k := 3) rfl (by rw [e_v5_7]; rfl) (by decide) rfl (fun ls hl => ?_)
        clear e_v5_7
        refine lv_goto (tgt := 13) Γ.1.1 Γ.1.2.1 dX0_commonDivisor_40 (by decide) ?_
        exact ih v3 v6_6 v5_7 _ _ _ hI (lv_sub hl [2, 1, 0] rfl) h
set_option maxRecDepth 20000 in
set_option maxHeartbeats 4000000 in
theorem S_X0_commonDivisor (l : Launch) (X : GX) (σ : GM) (x : Int64) (h : f_X0_commonDivisor σ = some x) : gMet l yX0_commonDivisor cX0_commonDivisor 8 (some .long) ({ frames := 0, cells := 0, slots := 0, locals := 0 } : Room) X σ [.ref (X.2.1 + 57)] (gQl X σ x) := by
  unfold f_X0_commonDivisor at h
  refine gMet_of (lv := [(0, .ref (X.2.1 + 57))]) (by decide) rfl (Nat.le_of_ble_eq_true rfl) rfl (fun p e s m below meth c H ls Γ hI hl => ?_)
  refine lv_aload_n Γ.1.1 Γ.1.2.1 dX0_commonDivisor_0 rfl (lv_at hl 0 rfl) ?_
  refine get_X0_below Γ hI gw_23 dX0_commonDivisor_1 ?_
  refine lv_topl (fun v1_1 e_v1_1 => ?_)
  replace h := nm_at e_v1_1 h; clear e_v1_1
  refine lv_lstore_n (lv' := [(1, .long v1_1), (0, .ref (X.2.1 + 57))]) Γ.1.1 Γ.1.2.1 dX0_commonDivisor_4 rfl hl (by decide) rfl (fun ls hl => ?_)
  refine lv_aload_n Γ.1.1 Γ.1.2.1 dX0_commonDivisor_5 rfl (lv_at hl 1 rfl) ?_
  refine get_X0_sum Γ hI gw_22 dX0_commonDivisor_6 ?_
  refine lv_topl (fun v3_2 e_v3_2 => ?_)
  replace h := nm_at e_v3_2 h; clear e_v3_2
  refine lv_lstore_n (lv' := [(3, .long v3_2), (1, .long v1_1), (0, .ref (X.2.1 + 57))]) Γ.1.1 Γ.1.2.1 dX0_commonDivisor_9 rfl hl (by decide) rfl (fun ls hl => ?_)
  refine lv_iconst (v := (0 : Int32)) Γ.1.1 Γ.1.2.1 dX0_commonDivisor_10 (by decide) ?_
  refine lv_istore (lv' := [(5, .int (0 : Int32)), (3, .long v3_2), (1, .long v1_1), (0, .ref (X.2.1 + 57))]) Γ.1.1 Γ.1.2.1 dX0_commonDivisor_11 hl (by decide) rfl (fun ls hl => ?_)
  exact s_X0_commonDivisor_L13 σ x Γ _ v1_1 v3_2 (0 : Int32) _ _ _ hI (lv_sub hl [2, 1, 0] rfl) h
set_option maxRecDepth 20000 in
set_option maxHeartbeats 4000000 in
theorem S_X0_boundAbove (l : Launch) (X : GX) (σ : GM) (x : Int64) (h : f_X0_boundAbove σ = some x) : gMet l yX0_boundAbove cX0_boundAbove 3 (some .long) ({ frames := 1, cells := 0, slots := 0, locals := 27 } : Room) X σ [.ref (X.2.1 + 57)] (gQl X σ x) := by
  unfold f_X0_boundAbove at h
  refine gMet_of (lv := [(0, .ref (X.2.1 + 57))]) (by decide) rfl (Nat.le_of_ble_eq_true rfl) rfl (fun p e s m below meth c H ls Γ hI hl => ?_)
  refine lv_aload_n Γ.1.1 Γ.1.2.1 dX0_boundAbove_0 rfl (lv_at hl 0 rfl) ?_
  obtain ⟨r_1, hr_1, h⟩ := ob_some h
  refine g_cl Γ hI (g_runV (As := []) Γ hI (S_X0_commonDivisor l X σ r_1 hr_1) mf_X0_commonDivisor (recv_X0 Γ hI) gw_53 rfl rfl ⟨Nat.le_of_ble_eq_true rfl, Nat.le_of_ble_eq_true rfl⟩ rfl hl.1 rfl (Nat.le_of_ble_eq_true rfl) dX0_boundAbove_1 ⟨Nat.zero_le _, Nat.zero_le _⟩) (fun H locs hI => ?_)
  clear hr_1
  refine lv_lstore_n (lv' := [(1, .long r_1), (0, .ref (X.2.1 + 57))]) Γ.1.1 Γ.1.2.1 dX0_boundAbove_4 rfl hl (by decide) rfl (fun ls hl => ?_)
  refine lv_lload_n Γ.1.1 Γ.1.2.1 dX0_boundAbove_5 rfl (lv_at hl 0 rfl) ?_
  refine lv_lconst (v := (0 : Int64)) Γ.1.1 Γ.1.2.1 dX0_boundAbove_6 (by decide) ?_
  refine W.lcmp Γ.1.1 Γ.1.2.1 dX0_boundAbove_7 ?_
  refine lv_if_eq (tgt := 20) Γ.1.1 Γ.1.2.1 dX0_boundAbove_8 (by decide) (fun c_3 => ?_) (fun c_3 => ?_)
  · replace h := ite_pos c_3 h; clear c_3
    refine lv_lconst (v := (0 : Int64)) Γ.1.1 Γ.1.2.1 dX0_boundAbove_20 (by decide) ?_
    exact g_lret Γ hI dX0_boundAbove_21 rfl (Option.some.inj h)
  · replace h := ite_neg c_3 h; clear c_3
    refine lv_aload_n Γ.1.1 Γ.1.2.1 dX0_boundAbove_11 rfl (lv_at hl 1 rfl) ?_
    refine get_X0_sum Γ hI gw_22 dX0_boundAbove_12 ?_
    refine lv_lload_n Γ.1.1 Γ.1.2.1 dX0_boundAbove_15 rfl (lv_at hl 0 rfl) ?_
    obtain ⟨hz_4, h⟩ := nzl_some h
    refine lv_ldiv Γ.1.1 Γ.1.2.1 dX0_boundAbove_16 hz_4 ?_
    refine lv_goto (tgt := 21) Γ.1.1 Γ.1.2.1 dX0_boundAbove_17 (by decide) ?_
    exact g_lret Γ hI dX0_boundAbove_21 rfl (Option.some.inj h)
set_option maxRecDepth 20000 in
set_option maxHeartbeats 4000000 in
theorem S_X0_boundBelow (l : Launch) (X : GX) (σ : GM) (x : Int64) (h : f_X0_boundBelow σ = some x) : gMet l yX0_boundBelow cX0_boundBelow 3 (some .long) ({ frames := 1, cells := 0, slots := 0, locals := 27 } : Room) X σ [.ref (X.2.1 + 57)] (gQl X σ x) := by
  unfold f_X0_boundBelow at h
  refine gMet_of (lv := [(0, .ref (X.2.1 + 57))]) (by decide) rfl (Nat.le_of_ble_eq_true rfl) rfl (fun p e s m below meth c H ls Γ hI hl => ?_)
  refine lv_aload_n Γ.1.1 Γ.1.2.1 dX0_boundBelow_0 rfl (lv_at hl 0 rfl) ?_
  obtain ⟨r_1, hr_1, h⟩ := ob_some h
  refine g_cl Γ hI (g_runV (As := []) Γ hI (S_X0_commonDivisor l X σ r_1 hr_1) mf_X0_commonDivisor (recv_X0 Γ hI) gw_53 rfl rfl ⟨Nat.le_of_ble_eq_true rfl, Nat.le_of_ble_eq_true rfl⟩ rfl hl.1 rfl (Nat.le_of_ble_eq_true rfl) dX0_boundBelow_1 ⟨Nat.zero_le _, Nat.zero_le _⟩) (fun H locs hI => ?_)
  clear hr_1
  refine lv_lstore_n (lv' := [(1, .long r_1), (0, .ref (X.2.1 + 57))]) Γ.1.1 Γ.1.2.1 dX0_boundBelow_4 rfl hl (by decide) rfl (fun ls hl => ?_)
  refine lv_lload_n Γ.1.1 Γ.1.2.1 dX0_boundBelow_5 rfl (lv_at hl 0 rfl) ?_
  refine lv_lconst (v := (0 : Int64)) Γ.1.1 Γ.1.2.1 dX0_boundBelow_6 (by decide) ?_
  refine W.lcmp Γ.1.1 Γ.1.2.1 dX0_boundBelow_7 ?_
  refine lv_if_eq (tgt := 20) Γ.1.1 Γ.1.2.1 dX0_boundBelow_8 (by decide) (fun c_3 => ?_) (fun c_3 => ?_)
  · replace h := ite_pos c_3 h; clear c_3
    refine lv_lconst (v := (1 : Int64)) Γ.1.1 Γ.1.2.1 dX0_boundBelow_20 (by decide) ?_
    exact g_lret Γ hI dX0_boundBelow_21 rfl (Option.some.inj h)
  · replace h := ite_neg c_3 h; clear c_3
    refine lv_aload_n Γ.1.1 Γ.1.2.1 dX0_boundBelow_11 rfl (lv_at hl 1 rfl) ?_
    refine get_X0_below Γ hI gw_23 dX0_boundBelow_12 ?_
    refine lv_lload_n Γ.1.1 Γ.1.2.1 dX0_boundBelow_15 rfl (lv_at hl 0 rfl) ?_
    obtain ⟨hz_4, h⟩ := nzl_some h
    refine lv_ldiv Γ.1.1 Γ.1.2.1 dX0_boundBelow_16 hz_4 ?_
    refine lv_goto (tgt := 21) Γ.1.1 Γ.1.2.1 dX0_boundBelow_17 (by decide) ?_
    exact g_lret Γ hI dX0_boundBelow_21 rfl (Option.some.inj h)
set_option maxRecDepth 20000 in
set_option maxHeartbeats 4000000 in
theorem S_X1_below (l : Launch) (X : GX) (σ : GM) (v1 : Int32) (σr : GM) (x : Int32) (h : f_X1_below σ v1 = some (σr, x)) : gMet l yX1_below cX1_below 2 (some .int) ({ frames := 0, cells := 0, slots := 0, locals := 0 } : Room) X σ [.ref (X.2.1 + 48), .int v1] (gQi X σr x) := by
  unfold f_X1_below at h
  refine gMet_of (lv := [(0, .ref (X.2.1 + 48)), (1, .int v1)]) (by decide) rfl (Nat.le_of_ble_eq_true rfl) rfl (fun p e s m below meth c H ls Γ hI hl => ?_)
  refine lv_aload_n Γ.1.1 Γ.1.2.1 dX1_below_0 rfl (lv_at hl 0 rfl) ?_
  refine lv_aload_n Γ.1.1 Γ.1.2.1 dX1_below_1 rfl (lv_at hl 0 rfl) ?_
  refine get_X1_seed Γ hI gw_54 dX1_below_2 ?_
  refine lv_ldc (v := (1103515245 : Int32)) Γ.1.1 Γ.1.2.1 Γ.1.2.2.2.1 (Γ.1.2.2.2.2 _ gw_55) dX1_below_5 ?_
  refine lv_imul Γ.1.1 Γ.1.2.1 dX1_below_7 ?_
  refine lv_sipush (v := (12345 : Int32)) Γ.1.1 Γ.1.2.1 dX1_below_8 (by decide) ?_
  refine lv_iadd Γ.1.1 Γ.1.2.1 dX1_below_11 ?_
  refine put_X1_seed Γ hI gw_54 dX1_below_12 (fun H locs hI => ?_)
  obtain ⟨σ_1, e_m_1, h⟩ := nm_some h
  rw [← e_m_1] at hI; clear e_m_1
  refine lv_iload_n Γ.1.1 Γ.1.2.1 dX1_below_15 rfl (lv_at hl 1 rfl) ?_
  refine lv_if_le (tgt := 31) Γ.1.1 Γ.1.2.1 dX1_below_16 (by decide) (fun c_2 => ?_) (fun c_2 => ?_)
  · replace h := ite_pos c_2 h; clear c_2
    refine lv_iconst (v := (0 : Int32)) Γ.1.1 Γ.1.2.1 dX1_below_31 (by decide) ?_
    exact g_iret Γ hI dX1_below_32 (Prod.mk.inj (Option.some.inj h)).1 (Prod.mk.inj (Option.some.inj h)).2
  · replace h := ite_neg c_2 h; clear c_2
    refine lv_aload_n Γ.1.1 Γ.1.2.1 dX1_below_19 rfl (lv_at hl 0 rfl) ?_
    refine get_X1_seed Γ hI gw_54 dX1_below_20 ?_
    refine lv_bipush (v := (8 : Int32)) Γ.1.1 Γ.1.2.1 dX1_below_23 (by decide) ?_
    refine lv_iushr (v := (jushr (σ_1.1 48 0) (8 : Int32))) Γ.1.1 Γ.1.2.1 dX1_below_25 rfl ?_
    refine lv_iload_n Γ.1.1 Γ.1.2.1 dX1_below_26 rfl (lv_at hl 1 rfl) ?_
    obtain ⟨hz_3, h⟩ := nz_some h
    refine lv_irem Γ.1.1 Γ.1.2.1 dX1_below_27 hz_3 ?_
    refine lv_goto (tgt := 32) Γ.1.1 Γ.1.2.1 dX1_below_28 (by decide) ?_
    exact g_iret Γ hI dX1_below_32 (Prod.mk.inj (Option.some.inj h)).1 (Prod.mk.inj (Option.some.inj h)).2
set_option maxRecDepth 20000 in
set_option maxHeartbeats 4000000 in
theorem S_X10_hasRoom (l : Launch) (X : GX) (σ : GM) (x : Int32) (h : f_X10_hasRoom σ = some x) : gMet l yX10_hasRoom cX10_hasRoom 1 (some .boolean) ({ frames := 0, cells := 0, slots := 0, locals := 0 } : Room) X σ [.ref (X.2.1 + 1)] (gQi X σ x) := by
  unfold f_X10_hasRoom at h
  refine gMet_of (lv := [(0, .ref (X.2.1 + 1))]) (by decide) rfl (Nat.le_of_ble_eq_true rfl) rfl (fun p e s m below meth c H ls Γ hI hl => ?_)
  refine lv_aload_n Γ.1.1 Γ.1.2.1 dX10_hasRoom_0 rfl (lv_at hl 0 rfl) ?_
  refine get_X10_length Γ hI gw_56 dX10_hasRoom_1 ?_
  refine lv_sipush (v := (620 : Int32)) Γ.1.1 Γ.1.2.1 dX10_hasRoom_4 (by decide) ?_
  refine lv_icmp_gt (tgt := 14) Γ.1.1 Γ.1.2.1 dX10_hasRoom_7 (by decide) (fun c_1 => ?_) (fun c_1 => ?_)
  · replace h := ite_pos c_1 h; clear c_1
    refine lv_iconst (v := (0 : Int32)) Γ.1.1 Γ.1.2.1 dX10_hasRoom_14 (by decide) ?_
    exact g_zret Γ hI dX10_hasRoom_15 rfl (Option.some.inj h)
  · replace h := ite_neg c_1 h; clear c_1
    refine lv_iconst (v := (1 : Int32)) Γ.1.1 Γ.1.2.1 dX10_hasRoom_10 (by decide) ?_
    refine lv_goto (tgt := 15) Γ.1.1 Γ.1.2.1 dX10_hasRoom_11 (by decide) ?_
    exact g_zret Γ hI dX10_hasRoom_15 rfl (Option.some.inj h)
set_option maxRecDepth 20000 in
set_option maxHeartbeats 4000000 in
theorem s_X10_append_L3 {p : Program} {l : Launch} {e : Env} {s : State} {m : MethodId} {args : Array Value} {below : List Frame} {meth : Method} {c : Code} {X : GX} (σr : GM) (Γ : gC X p m meth c cX10_append 3 s args RX10 none) (v1 : Int32) :
    ∀ (k : Nat) (σ : GM) (v2 : Int32) (H : Heap) (locs : List Loc) (ls : Array Slot), gI X σ s H locs → lv_has ls 3 [(0, .ref (X.2.1 + 1)), (1, .int v1), (2, .int v2)] → f_X10_append_L3 v1 k σ v2 = some σr →
    W p l e ({ frames := 0, cells := 0, slots := 0, locals := 0 } : Room) s m args below meth c H locs 0 0 (MQ below (gQv X σr) args s 0 0 (gA X)) (F0 m 3 ls []) := by
  intro k
  induction k with
  | zero =>
    intro σ v2 H locs ls hI hl h
    exact absurd h (by simp [f_X10_append_L3])
  | succ k ih =>
    intro σ v2 H locs ls hI hl h
    unfold f_X10_append_L3 at h
    refine lv_iload_n Γ.1.1 Γ.1.2.1 dX10_append_3 rfl (lv_at hl 2 rfl) ?_
    refine lv_if_lt (tgt := 58) Γ.1.1 Γ.1.2.1 dX10_append_4 (by decide) (fun c_1 => ?_) (fun c_1 => ?_)
    · replace h := ite_pos c_1 h; clear c_1
      exact g_vret Γ hI dX10_append_58 (Option.some.inj h)
    · replace h := ite_neg c_1 h; clear c_1
      refine lv_aload_n Γ.1.1 Γ.1.2.1 dX10_append_7 rfl (lv_at hl 0 rfl) ?_
      refine get_X10_length Γ hI gw_56 dX10_append_8 ?_
      refine lv_if_lt (tgt := 52) Γ.1.1 Γ.1.2.1 dX10_append_11 (by decide) (fun c_2 => ?_) (fun c_2 => ?_)
      · replace h := ite_pos c_2 h; clear c_2
        obtain ⟨v2_3, e_v2_3, h⟩ := nm_some h
        refine lv_iinc (v := v2_3) (lv' := [(2, .int v2_3), (0, .ref (X.2.1 + 1)), (1, .int v1)]) Γ.1.1 Γ.1.2.1 dX10_append_52 hl (k := 2) rfl (by rw [e_v2_3]; rfl) (by decide) rfl (fun ls hl => ?_)
        clear e_v2_3
        refine lv_goto (tgt := 3) Γ.1.1 Γ.1.2.1 dX10_append_55 (by decide) ?_
        exact ih σ v2_3 _ _ _ hI (lv_sub hl [1, 2, 0] rfl) h
      · replace h := ite_neg c_2 h; clear c_2
        refine lv_aload_n Γ.1.1 Γ.1.2.1 dX10_append_14 rfl (lv_at hl 0 rfl) ?_
        refine get_X10_length Γ hI gw_56 dX10_append_15 ?_
        refine lv_aload_n Γ.1.1 Γ.1.2.1 dX10_append_18 rfl (lv_at hl 0 rfl) ?_
        refine get_X10_bytes Γ hI gw_57 dX10_append_19 ?_
        refine g_alen Γ hI sh_2 (by decide) (v := (640 : Int32)) (by decide) dX10_append_22 ?_
        refine lv_icmp_ge (tgt := 52) Γ.1.1 Γ.1.2.1 dX10_append_23 (by decide) (fun c_4 => ?_) (fun c_4 => ?_)
        · replace h := ite_pos c_4 h; clear c_4
          obtain ⟨v2_5, e_v2_5, h⟩ := nm_some h
          refine lv_iinc (v := v2_5) (lv' := [(2, .int v2_5), (0, .ref (X.2.1 + 1)), (1, .int v1)]) Γ.1.1 Γ.1.2.1 dX10_append_52 hl (k := 2) rfl (by rw [e_v2_5]; rfl) (by decide) rfl (fun ls hl => ?_)
          clear e_v2_5
          refine lv_goto (tgt := 3) Γ.1.1 Γ.1.2.1 dX10_append_55 (by decide) ?_
          exact ih σ v2_5 _ _ _ hI (lv_sub hl [1, 2, 0] rfl) h
        · replace h := ite_neg c_4 h; clear c_4
          refine lv_aload_n Γ.1.1 Γ.1.2.1 dX10_append_26 rfl (lv_at hl 0 rfl) ?_
          refine get_X10_bytes Γ hI gw_57 dX10_append_27 ?_
          refine lv_aload_n Γ.1.1 Γ.1.2.1 dX10_append_30 rfl (lv_at hl 0 rfl) ?_
          refine get_X10_length Γ hI gw_56 dX10_append_31 ?_
          refine lv_iload_n Γ.1.1 Γ.1.2.1 dX10_append_34 rfl (lv_at hl 1 rfl) ?_
          refine lv_iload_n Γ.1.1 Γ.1.2.1 dX10_append_35 rfl (lv_at hl 2 rfl) ?_
          refine lv_iushr (v := (jushr v1 v2)) Γ.1.1 Γ.1.2.1 dX10_append_36 rfl ?_
          refine lv_sipush (v := (255 : Int32)) Γ.1.1 Γ.1.2.1 dX10_append_37 (by decide) ?_
          refine lv_iand Γ.1.1 Γ.1.2.1 dX10_append_40 ?_
          obtain ⟨hb_6, h⟩ := bnd_some h
          refine g_iast Γ hI sh_2 hb_6 dX10_append_41 (fun H locs hI => ?_)
          obtain ⟨σ_7, e_m_7, h⟩ := nm_some h
          rw [← e_m_7] at hI; clear e_m_7
          refine lv_aload_n Γ.1.1 Γ.1.2.1 dX10_append_42 rfl (lv_at hl 0 rfl) ?_
          refine lv_dup Γ.1.1 Γ.1.2.1 dX10_append_43 rfl ?_
          refine get_X10_length Γ hI gw_56 dX10_append_44 ?_
          refine lv_iconst (v := (1 : Int32)) Γ.1.1 Γ.1.2.1 dX10_append_47 (by decide) ?_
          refine lv_iadd Γ.1.1 Γ.1.2.1 dX10_append_48 ?_
          refine put_X10_length Γ hI gw_56 dX10_append_49 (fun H locs hI => ?_)
          obtain ⟨σ_8, e_m_8, h⟩ := nm_some h
          rw [← e_m_8] at hI; clear e_m_8
          obtain ⟨v2_9, e_v2_9, h⟩ := nm_some h
          refine lv_iinc (v := v2_9) (lv' := [(2, .int v2_9), (0, .ref (X.2.1 + 1)), (1, .int v1)]) Γ.1.1 Γ.1.2.1 dX10_append_52 hl (k := 2) rfl (by rw [e_v2_9]; rfl) (by decide) rfl (fun ls hl => ?_)
          clear e_v2_9
          refine lv_goto (tgt := 3) Γ.1.1 Γ.1.2.1 dX10_append_55 (by decide) ?_
          exact ih σ_8 v2_9 _ _ _ hI (lv_sub hl [1, 2, 0] rfl) h
set_option maxRecDepth 20000 in
set_option maxHeartbeats 4000000 in
theorem S_X10_append (l : Launch) (X : GX) (σ : GM) (v1 : Int32) (σr : GM) (h : f_X10_append σ v1 = some σr) : gMet l yX10_append cX10_append 3 none ({ frames := 0, cells := 0, slots := 0, locals := 0 } : Room) X σ [.ref (X.2.1 + 1), .int v1] (gQv X σr) := by
  unfold f_X10_append at h
  refine gMet_of (lv := [(0, .ref (X.2.1 + 1)), (1, .int v1)]) (by decide) rfl (Nat.le_of_ble_eq_true rfl) rfl (fun p e s m below meth c H ls Γ hI hl => ?_)
  refine lv_bipush (v := (24 : Int32)) Γ.1.1 Γ.1.2.1 dX10_append_0 (by decide) ?_
  refine lv_istore_n (lv' := [(2, .int (24 : Int32)), (0, .ref (X.2.1 + 1)), (1, .int v1)]) Γ.1.1 Γ.1.2.1 dX10_append_2 rfl hl (by decide) rfl (fun ls hl => ?_)
  exact s_X10_append_L3 σr Γ v1 _ σ (24 : Int32) _ _ _ hI (lv_sub hl [1, 2, 0] rfl) h
set_option maxRecDepth 20000 in
set_option maxHeartbeats 4000000 in
theorem S_X10_byteAt (l : Launch) (X : GX) (σ : GM) (v1 : Int32) (x : Int32) (h : f_X10_byteAt σ v1 = some x) : gMet l yX10_byteAt cX10_byteAt 2 (some .int) ({ frames := 0, cells := 0, slots := 0, locals := 0 } : Room) X σ [.ref (X.2.1 + 1), .int v1] (gQi X σ x) := by
  unfold f_X10_byteAt at h
  refine gMet_of (lv := [(0, .ref (X.2.1 + 1)), (1, .int v1)]) (by decide) rfl (Nat.le_of_ble_eq_true rfl) rfl (fun p e s m below meth c H ls Γ hI hl => ?_)
  refine lv_iload_n Γ.1.1 Γ.1.2.1 dX10_byteAt_0 rfl (lv_at hl 1 rfl) ?_
  refine lv_if_lt (tgt := 30) Γ.1.1 Γ.1.2.1 dX10_byteAt_1 (by decide) (fun c_1 => ?_) (fun c_1 => ?_)
  · replace h := ite_pos c_1 h; clear c_1
    refine lv_iconst (v := (0 : Int32)) Γ.1.1 Γ.1.2.1 dX10_byteAt_30 (by decide) ?_
    exact g_iret Γ hI dX10_byteAt_31 rfl (Option.some.inj h)
  · replace h := ite_neg c_1 h; clear c_1
    refine lv_iload_n Γ.1.1 Γ.1.2.1 dX10_byteAt_4 rfl (lv_at hl 1 rfl) ?_
    refine lv_aload_n Γ.1.1 Γ.1.2.1 dX10_byteAt_5 rfl (lv_at hl 0 rfl) ?_
    refine get_X10_length Γ hI gw_56 dX10_byteAt_6 ?_
    refine lv_icmp_ge (tgt := 30) Γ.1.1 Γ.1.2.1 dX10_byteAt_9 (by decide) (fun c_2 => ?_) (fun c_2 => ?_)
    · replace h := ite_pos c_2 h; clear c_2
      refine lv_iconst (v := (0 : Int32)) Γ.1.1 Γ.1.2.1 dX10_byteAt_30 (by decide) ?_
      exact g_iret Γ hI dX10_byteAt_31 rfl (Option.some.inj h)
    · replace h := ite_neg c_2 h; clear c_2
      refine lv_iload_n Γ.1.1 Γ.1.2.1 dX10_byteAt_12 rfl (lv_at hl 1 rfl) ?_
      refine lv_aload_n Γ.1.1 Γ.1.2.1 dX10_byteAt_13 rfl (lv_at hl 0 rfl) ?_
      refine get_X10_bytes Γ hI gw_57 dX10_byteAt_14 ?_
      refine g_alen Γ hI sh_2 (by decide) (v := (640 : Int32)) (by decide) dX10_byteAt_17 ?_
      refine lv_icmp_ge (tgt := 30) Γ.1.1 Γ.1.2.1 dX10_byteAt_18 (by decide) (fun c_3 => ?_) (fun c_3 => ?_)
      · replace h := ite_pos c_3 h; clear c_3
        refine lv_iconst (v := (0 : Int32)) Γ.1.1 Γ.1.2.1 dX10_byteAt_30 (by decide) ?_
        exact g_iret Γ hI dX10_byteAt_31 rfl (Option.some.inj h)
      · replace h := ite_neg c_3 h; clear c_3
        refine lv_aload_n Γ.1.1 Γ.1.2.1 dX10_byteAt_21 rfl (lv_at hl 0 rfl) ?_
        refine get_X10_bytes Γ hI gw_57 dX10_byteAt_22 ?_
        refine lv_iload_n Γ.1.1 Γ.1.2.1 dX10_byteAt_25 rfl (lv_at hl 1 rfl) ?_
        obtain ⟨hb_4, h⟩ := bnd_some h
        refine g_iald Γ hI sh_2 hb_4 dX10_byteAt_26 ?_
        refine lv_goto (tgt := 31) Γ.1.1 Γ.1.2.1 dX10_byteAt_27 (by decide) ?_
        exact g_iret Γ hI dX10_byteAt_31 rfl (Option.some.inj h)
set_option maxRecDepth 20000 in
set_option maxHeartbeats 4000000 in
theorem S_X11_feed (l : Launch) (X : GX) (σ : GM) (v1 : Int32) (v2 : Int32) (v3 : Int32) (v4 : Int32) (v5 : Int32) (σr : GM) (x : Int32) (h : f_X11_feed σ v1 v2 v3 v4 v5 = some (σr, x)) : gMet l yX11_feed cX11_feed 6 (some .int) ({ frames := 1, cells := 0, slots := 0, locals := 22 } : Room) X σ [.ref (X.2.1 + 0), .int v1, .int v2, .int v3, .int v4, .int v5] (gQi X σr x) := by
  unfold f_X11_feed at h
  refine gMet_of (lv := [(0, .ref (X.2.1 + 0)), (1, .int v1), (2, .int v2), (3, .int v3), (4, .int v4), (5, .int v5)]) (by decide) rfl (Nat.le_of_ble_eq_true rfl) rfl (fun p e s m below meth c H ls Γ hI hl => ?_)
  refine lv_aload_n Γ.1.1 Γ.1.2.1 dX11_feed_0 rfl (lv_at hl 0 rfl) ?_
  refine get_X11_tape Γ hI gw_58 dX11_feed_1 ?_
  obtain ⟨r_1, hr_1, h⟩ := ob_some h
  refine g_ci Γ hI (g_runV (As := []) Γ hI (S_X10_hasRoom l X σ r_1 hr_1) mf_X10_hasRoom (recv_X10 Γ hI) gw_59 rfl rfl ⟨Nat.le_of_ble_eq_true rfl, Nat.le_of_ble_eq_true rfl⟩ rfl hl.1 rfl (Nat.le_of_ble_eq_true rfl) dX11_feed_4 ⟨Nat.zero_le _, Nat.zero_le _⟩) (fun H locs hI => ?_)
  clear hr_1
  refine lv_if_ne (tgt := 12) Γ.1.1 Γ.1.2.1 dX11_feed_7 (by decide) (fun c_3 => ?_) (fun c_3 => ?_)
  · replace h := ite_neg c_3 h; clear c_3
    refine lv_aload_n Γ.1.1 Γ.1.2.1 dX11_feed_12 rfl (lv_at hl 0 rfl) ?_
    refine get_X11_tape Γ hI gw_58 dX11_feed_13 ?_
    refine lv_iload_n Γ.1.1 Γ.1.2.1 dX11_feed_16 rfl (lv_at hl 1 rfl) ?_
    obtain ⟨σ_5, hr_4, h⟩ := ob_some h
    refine g_cv Γ hI (g_runV (As := [.int v1]) Γ hI (S_X10_append l X σ v1 σ_5 hr_4) mf_X10_append (recv_X10 Γ hI) gw_60 rfl rfl ⟨Nat.le_of_ble_eq_true rfl, Nat.le_of_ble_eq_true rfl⟩ rfl hl.1 rfl (Nat.le_of_ble_eq_true rfl) dX11_feed_17 ⟨Nat.zero_le _, Nat.zero_le _⟩) (fun H locs hI => ?_)
    clear hr_4
    refine lv_aload_n Γ.1.1 Γ.1.2.1 dX11_feed_20 rfl (lv_at hl 0 rfl) ?_
    refine get_X11_tape Γ hI gw_58 dX11_feed_21 ?_
    refine lv_iload_n Γ.1.1 Γ.1.2.1 dX11_feed_24 rfl (lv_at hl 2 rfl) ?_
    obtain ⟨σ_7, hr_6, h⟩ := ob_some h
    refine g_cv Γ hI (g_runV (As := [.int v2]) Γ hI (S_X10_append l X σ_5 v2 σ_7 hr_6) mf_X10_append (recv_X10 Γ hI) gw_60 rfl rfl ⟨Nat.le_of_ble_eq_true rfl, Nat.le_of_ble_eq_true rfl⟩ rfl hl.1 rfl (Nat.le_of_ble_eq_true rfl) dX11_feed_25 ⟨Nat.zero_le _, Nat.zero_le _⟩) (fun H locs hI => ?_)
    clear hr_6
    refine lv_aload_n Γ.1.1 Γ.1.2.1 dX11_feed_28 rfl (lv_at hl 0 rfl) ?_
    refine get_X11_tape Γ hI gw_58 dX11_feed_29 ?_
    refine lv_iload_n Γ.1.1 Γ.1.2.1 dX11_feed_32 rfl (lv_at hl 3 rfl) ?_
    obtain ⟨σ_9, hr_8, h⟩ := ob_some h
    refine g_cv Γ hI (g_runV (As := [.int v3]) Γ hI (S_X10_append l X σ_7 v3 σ_9 hr_8) mf_X10_append (recv_X10 Γ hI) gw_60 rfl rfl ⟨Nat.le_of_ble_eq_true rfl, Nat.le_of_ble_eq_true rfl⟩ rfl hl.1 rfl (Nat.le_of_ble_eq_true rfl) dX11_feed_33 ⟨Nat.zero_le _, Nat.zero_le _⟩) (fun H locs hI => ?_)
    clear hr_8
    refine lv_aload_n Γ.1.1 Γ.1.2.1 dX11_feed_36 rfl (lv_at hl 0 rfl) ?_
    refine get_X11_tape Γ hI gw_58 dX11_feed_37 ?_
    refine lv_iload Γ.1.1 Γ.1.2.1 dX11_feed_40 (lv_at hl 4 rfl) ?_
    obtain ⟨σ_11, hr_10, h⟩ := ob_some h
    refine g_cv Γ hI (g_runV (As := [.int v4]) Γ hI (S_X10_append l X σ_9 v4 σ_11 hr_10) mf_X10_append (recv_X10 Γ hI) gw_60 rfl rfl ⟨Nat.le_of_ble_eq_true rfl, Nat.le_of_ble_eq_true rfl⟩ rfl hl.1 rfl (Nat.le_of_ble_eq_true rfl) dX11_feed_42 ⟨Nat.zero_le _, Nat.zero_le _⟩) (fun H locs hI => ?_)
    clear hr_10
    refine lv_aload_n Γ.1.1 Γ.1.2.1 dX11_feed_45 rfl (lv_at hl 0 rfl) ?_
    refine get_X11_tape Γ hI gw_58 dX11_feed_46 ?_
    refine lv_iload Γ.1.1 Γ.1.2.1 dX11_feed_49 (lv_at hl 5 rfl) ?_
    obtain ⟨σ_13, hr_12, h⟩ := ob_some h
    refine g_cv Γ hI (g_runV (As := [.int v5]) Γ hI (S_X10_append l X σ_11 v5 σ_13 hr_12) mf_X10_append (recv_X10 Γ hI) gw_60 rfl rfl ⟨Nat.le_of_ble_eq_true rfl, Nat.le_of_ble_eq_true rfl⟩ rfl hl.1 rfl (Nat.le_of_ble_eq_true rfl) dX11_feed_51 ⟨Nat.zero_le _, Nat.zero_le _⟩) (fun H locs hI => ?_)
    clear hr_12
    refine lv_aload_n Γ.1.1 Γ.1.2.1 dX11_feed_54 rfl (lv_at hl 0 rfl) ?_
    refine get_X11_tape Γ hI gw_58 dX11_feed_55 ?_
    refine get_X10_length Γ hI gw_61 dX11_feed_58 ?_
    exact g_iret Γ hI dX11_feed_61 (Prod.mk.inj (Option.some.inj h)).1 (Prod.mk.inj (Option.some.inj h)).2
  · replace h := ite_pos c_3 h; clear c_3
    refine lv_iconst (v := (-1 : Int32)) Γ.1.1 Γ.1.2.1 dX11_feed_10 (by decide) ?_
    exact g_iret Γ hI dX11_feed_11 (Prod.mk.inj (Option.some.inj h)).1 (Prod.mk.inj (Option.some.inj h)).2
set_option maxRecDepth 20000 in
set_option maxHeartbeats 4000000 in
theorem S_X11_end (l : Launch) (X : GX) (σ : GM) (v1 : Int32) (σr : GM) (x : Int32) (h : f_X11_end σ v1 = some (σr, x)) : gMet l yX11_end cX11_end 2 (some .boolean) ({ frames := 0, cells := 0, slots := 0, locals := 0 } : Room) X σ [.ref (X.2.1 + 0), .int v1] (gQi X σr x) := by
  unfold f_X11_end at h
  refine gMet_of (lv := [(0, .ref (X.2.1 + 0)), (1, .int v1)]) (by decide) rfl (Nat.le_of_ble_eq_true rfl) rfl (fun p e s m below meth c H ls Γ hI hl => ?_)
  refine lv_iload_n Γ.1.1 Γ.1.2.1 dX11_end_0 rfl (lv_at hl 1 rfl) ?_
  refine lv_if_lt (tgt := 15) Γ.1.1 Γ.1.2.1 dX11_end_1 (by decide) (fun c_1 => ?_) (fun c_1 => ?_)
  · replace h := ite_pos c_1 h; clear c_1
    refine lv_iconst (v := (0 : Int32)) Γ.1.1 Γ.1.2.1 dX11_end_15 (by decide) ?_
    exact g_zret Γ hI dX11_end_16 (Prod.mk.inj (Option.some.inj h)).1 (Prod.mk.inj (Option.some.inj h)).2
  · replace h := ite_neg c_1 h; clear c_1
    refine lv_iload_n Γ.1.1 Γ.1.2.1 dX11_end_4 rfl (lv_at hl 1 rfl) ?_
    refine lv_aload_n Γ.1.1 Γ.1.2.1 dX11_end_5 rfl (lv_at hl 0 rfl) ?_
    refine get_X11_tape Γ hI gw_58 dX11_end_6 ?_
    refine get_X10_length Γ hI gw_61 dX11_end_9 ?_
    refine lv_icmp_le (tgt := 17) Γ.1.1 Γ.1.2.1 dX11_end_12 (by decide) (fun c_2 => ?_) (fun c_2 => ?_)
    · replace h := ite_pos c_2 h; clear c_2
      refine lv_aload_n Γ.1.1 Γ.1.2.1 dX11_end_17 rfl (lv_at hl 0 rfl) ?_
      refine get_X11_tape Γ hI gw_58 dX11_end_18 ?_
      refine lv_iload_n Γ.1.1 Γ.1.2.1 dX11_end_21 rfl (lv_at hl 1 rfl) ?_
      refine put_X10_length Γ hI gw_61 dX11_end_22 (fun H locs hI => ?_)
      obtain ⟨σ_3, e_m_3, h⟩ := nm_some h
      rw [← e_m_3] at hI; clear e_m_3
      refine lv_iconst (v := (1 : Int32)) Γ.1.1 Γ.1.2.1 dX11_end_25 (by decide) ?_
      exact g_zret Γ hI dX11_end_26 (Prod.mk.inj (Option.some.inj h)).1 (Prod.mk.inj (Option.some.inj h)).2
    · replace h := ite_neg c_2 h; clear c_2
      refine lv_iconst (v := (0 : Int32)) Γ.1.1 Γ.1.2.1 dX11_end_15 (by decide) ?_
      exact g_zret Γ hI dX11_end_16 (Prod.mk.inj (Option.some.inj h)).1 (Prod.mk.inj (Option.some.inj h)).2
set_option maxRecDepth 20000 in
set_option maxHeartbeats 4000000 in
theorem S_X6_isLetter (l : Launch) (X : GX) (σ : GM) (v0 : Int32) (x : Int32) (h : f_X6_isLetter σ v0 = some x) : gMet l yX6_isLetter cX6_isLetter 1 (some .boolean) ({ frames := 0, cells := 0, slots := 0, locals := 0 } : Room) X σ [.int v0] (gQi X σ x) := by
  unfold f_X6_isLetter at h
  refine gMet_of (lv := [(0, .int v0)]) (by decide) rfl (Nat.le_of_ble_eq_true rfl) rfl (fun p e s m below meth c H ls Γ hI hl => ?_)
  refine lv_iload_n Γ.1.1 Γ.1.2.1 dX6_isLetter_0 rfl (lv_at hl 0 rfl) ?_
  refine lv_bipush (v := (97 : Int32)) Γ.1.1 Γ.1.2.1 dX6_isLetter_1 (by decide) ?_
  refine lv_icmp_lt (tgt := 16) Γ.1.1 Γ.1.2.1 dX6_isLetter_3 (by decide) (fun c_1 => ?_) (fun c_1 => ?_)
  · replace h := ite_pos c_1 h; clear c_1
    refine lv_iconst (v := (0 : Int32)) Γ.1.1 Γ.1.2.1 dX6_isLetter_16 (by decide) ?_
    exact g_zret Γ hI dX6_isLetter_17 rfl (Option.some.inj h)
  · replace h := ite_neg c_1 h; clear c_1
    refine lv_iload_n Γ.1.1 Γ.1.2.1 dX6_isLetter_6 rfl (lv_at hl 0 rfl) ?_
    refine lv_bipush (v := (122 : Int32)) Γ.1.1 Γ.1.2.1 dX6_isLetter_7 (by decide) ?_
    refine lv_icmp_gt (tgt := 16) Γ.1.1 Γ.1.2.1 dX6_isLetter_9 (by decide) (fun c_2 => ?_) (fun c_2 => ?_)
    · replace h := ite_pos c_2 h; clear c_2
      refine lv_iconst (v := (0 : Int32)) Γ.1.1 Γ.1.2.1 dX6_isLetter_16 (by decide) ?_
      exact g_zret Γ hI dX6_isLetter_17 rfl (Option.some.inj h)
    · replace h := ite_neg c_2 h; clear c_2
      refine lv_iconst (v := (1 : Int32)) Γ.1.1 Γ.1.2.1 dX6_isLetter_12 (by decide) ?_
      refine lv_goto (tgt := 17) Γ.1.1 Γ.1.2.1 dX6_isLetter_13 (by decide) ?_
      exact g_zret Γ hI dX6_isLetter_17 rfl (Option.some.inj h)
set_option maxRecDepth 20000 in
set_option maxHeartbeats 4000000 in
theorem S_X6_isDigit (l : Launch) (X : GX) (σ : GM) (v0 : Int32) (x : Int32) (h : f_X6_isDigit σ v0 = some x) : gMet l yX6_isDigit cX6_isDigit 1 (some .boolean) ({ frames := 0, cells := 0, slots := 0, locals := 0 } : Room) X σ [.int v0] (gQi X σ x) := by
  unfold f_X6_isDigit at h
  refine gMet_of (lv := [(0, .int v0)]) (by decide) rfl (Nat.le_of_ble_eq_true rfl) rfl (fun p e s m below meth c H ls Γ hI hl => ?_)
  refine lv_iload_n Γ.1.1 Γ.1.2.1 dX6_isDigit_0 rfl (lv_at hl 0 rfl) ?_
  refine lv_bipush (v := (48 : Int32)) Γ.1.1 Γ.1.2.1 dX6_isDigit_1 (by decide) ?_
  refine lv_icmp_lt (tgt := 16) Γ.1.1 Γ.1.2.1 dX6_isDigit_3 (by decide) (fun c_1 => ?_) (fun c_1 => ?_)
  · replace h := ite_pos c_1 h; clear c_1
    refine lv_iconst (v := (0 : Int32)) Γ.1.1 Γ.1.2.1 dX6_isDigit_16 (by decide) ?_
    exact g_zret Γ hI dX6_isDigit_17 rfl (Option.some.inj h)
  · replace h := ite_neg c_1 h; clear c_1
    refine lv_iload_n Γ.1.1 Γ.1.2.1 dX6_isDigit_6 rfl (lv_at hl 0 rfl) ?_
    refine lv_bipush (v := (57 : Int32)) Γ.1.1 Γ.1.2.1 dX6_isDigit_7 (by decide) ?_
    refine lv_icmp_gt (tgt := 16) Γ.1.1 Γ.1.2.1 dX6_isDigit_9 (by decide) (fun c_2 => ?_) (fun c_2 => ?_)
    · replace h := ite_pos c_2 h; clear c_2
      refine lv_iconst (v := (0 : Int32)) Γ.1.1 Γ.1.2.1 dX6_isDigit_16 (by decide) ?_
      exact g_zret Γ hI dX6_isDigit_17 rfl (Option.some.inj h)
    · replace h := ite_neg c_2 h; clear c_2
      refine lv_iconst (v := (1 : Int32)) Γ.1.1 Γ.1.2.1 dX6_isDigit_12 (by decide) ?_
      refine lv_goto (tgt := 17) Γ.1.1 Γ.1.2.1 dX6_isDigit_13 (by decide) ?_
      exact g_zret Γ hI dX6_isDigit_17 rfl (Option.some.inj h)
set_option maxRecDepth 20000 in
set_option maxHeartbeats 4000000 in
theorem s_X6_readToken_L200 {p : Program} {l : Launch} {e : Env} {s : State} {m : MethodId} {args : Array Value} {below : List Frame} {meth : Method} {c : Code} {X : GX} (σr : GM) (Γ : gC X p m meth c cX6_readToken 7 s args RX6 none) :
    ∀ (σ : GM) (v4 : Int32) (v5 : Int32) (H : Heap) (locs : List Loc) (ls : Array Slot), gI X σ s H locs → lv_has ls 7 [(0, .ref (X.2.1 + 3)), (4, .int v4), (5, .int v5)] → f_X6_readToken_L200 σ v4 v5 = some σr →
    W p l e ({ frames := 1, cells := 0, slots := 0, locals := 21 } : Room) s m args below meth c H locs 0 0 (MQ below (gQv X σr) args s 0 0 (gA X)) (F0 m 200 ls []) := by
  intro σ v4 v5 H locs ls hI hl h
  unfold f_X6_readToken_L200 at h
  refine lv_iload Γ.1.1 Γ.1.2.1 dX6_readToken_200 (lv_at hl 1 rfl) ?_
  refine lv_if_eq (tgt := 216) Γ.1.1 Γ.1.2.1 dX6_readToken_202 (by decide) (fun c_13 => ?_) (fun c_13 => ?_)
  · replace h := ite_pos c_13 h; clear c_13
    exact g_vret Γ hI dX6_readToken_216 (Option.some.inj h)
  · replace h := ite_neg c_13 h; clear c_13
    refine lv_iload Γ.1.1 Γ.1.2.1 dX6_readToken_205 (lv_at hl 2 rfl) ?_
    refine lv_iconst (v := (2 : Int32)) Γ.1.1 Γ.1.2.1 dX6_readToken_207 (by decide) ?_
    refine lv_icmp_gt (tgt := 216) Γ.1.1 Γ.1.2.1 dX6_readToken_208 (by decide) (fun c_14 => ?_) (fun c_14 => ?_)
    · replace h := ite_pos c_14 h; clear c_14
      exact g_vret Γ hI dX6_readToken_216 (Option.some.inj h)
    · replace h := ite_neg c_14 h; clear c_14
      refine lv_aload_n Γ.1.1 Γ.1.2.1 dX6_readToken_211 rfl (lv_at hl 0 rfl) ?_
      refine lv_iconst (v := (2 : Int32)) Γ.1.1 Γ.1.2.1 dX6_readToken_212 (by decide) ?_
      refine put_X6_kind Γ hI gw_64 dX6_readToken_213 (fun H locs hI => ?_)
      obtain ⟨σ_15, e_m_15, h⟩ := nm_some h
      rw [← e_m_15] at hI; clear e_m_15
      exact g_vret Γ hI dX6_readToken_216 (Option.some.inj h)
set_option maxRecDepth 20000 in
set_option maxHeartbeats 4000000 in
theorem s_X6_readToken_L170 {p : Program} {l : Launch} {e : Env} {s : State} {m : MethodId} {args : Array Value} {below : List Frame} {meth : Method} {c : Code} {X : GX} (σr : GM) (Γ : gC X p m meth c cX6_readToken 7 s args RX6 none) :
    ∀ (σ : GM) (v3 : Int32) (v4 : Int32) (v5 : Int32) (H : Heap) (locs : List Loc) (ls : Array Slot), gI X σ s H locs → lv_has ls 7 [(0, .ref (X.2.1 + 3)), (3, .int v3), (4, .int v4), (5, .int v5)] → f_X6_readToken_L170 σ v3 v4 v5 = some σr →
    W p l e ({ frames := 1, cells := 0, slots := 0, locals := 21 } : Room) s m args below meth c H locs 0 0 (MQ below (gQv X σr) args s 0 0 (gA X)) (F0 m 170 ls []) := by
  intro σ v3 v4 v5 H locs ls hI hl h
  unfold f_X6_readToken_L170 at h
  refine lv_aload_n Γ.1.1 Γ.1.2.1 dX6_readToken_170 rfl (lv_at hl 0 rfl) ?_
  refine lv_aload_n Γ.1.1 Γ.1.2.1 dX6_readToken_171 rfl (lv_at hl 0 rfl) ?_
  refine get_X6_place Γ hI gw_62 dX6_readToken_172 ?_
  refine lv_iload Γ.1.1 Γ.1.2.1 dX6_readToken_175 (lv_at hl 3 rfl) ?_
  refine lv_iadd Γ.1.1 Γ.1.2.1 dX6_readToken_177 ?_
  refine put_X6_next Γ hI gw_67 dX6_readToken_178 (fun H locs hI => ?_)
  obtain ⟨σ_11, e_m_11, h⟩ := nm_some h
  rw [← e_m_11] at hI; clear e_m_11
  refine lv_iload_n Γ.1.1 Γ.1.2.1 dX6_readToken_181 rfl (lv_at hl 1 rfl) ?_
  refine lv_if_eq (tgt := 200) Γ.1.1 Γ.1.2.1 dX6_readToken_182 (by decide) (fun c_12 => ?_) (fun c_12 => ?_)
  · replace h := ite_pos c_12 h; clear c_12
    exact s_X6_readToken_L200 σr Γ σ_11 v4 v5 _ _ _ hI (lv_sub hl [0, 2, 3] rfl) h
  · replace h := ite_neg c_12 h; clear c_12
    refine lv_iload Γ.1.1 Γ.1.2.1 dX6_readToken_185 (lv_at hl 3 rfl) ?_
    refine lv_bipush (v := (7 : Int32)) Γ.1.1 Γ.1.2.1 dX6_readToken_187 (by decide) ?_
    refine lv_icmp_gt (tgt := 200) Γ.1.1 Γ.1.2.1 dX6_readToken_189 (by decide) (fun c_16 => ?_) (fun c_16 => ?_)
    · replace h := ite_pos c_16 h; clear c_16
      exact s_X6_readToken_L200 σr Γ σ_11 v4 v5 _ _ _ hI (lv_sub hl [0, 2, 3] rfl) h
    · replace h := ite_neg c_16 h; clear c_16
      refine lv_aload_n Γ.1.1 Γ.1.2.1 dX6_readToken_192 rfl (lv_at hl 0 rfl) ?_
      refine lv_iconst (v := (1 : Int32)) Γ.1.1 Γ.1.2.1 dX6_readToken_193 (by decide) ?_
      refine put_X6_kind Γ hI gw_64 dX6_readToken_194 (fun H locs hI => ?_)
      obtain ⟨σ_17, e_m_17, h⟩ := nm_some h
      rw [← e_m_17] at hI; clear e_m_17
      refine lv_goto (tgt := 216) Γ.1.1 Γ.1.2.1 dX6_readToken_197 (by decide) ?_
      exact g_vret Γ hI dX6_readToken_216 (Option.some.inj h)
set_option maxRecDepth 20000 in
set_option maxHeartbeats 4000000 in
theorem s_X6_readToken_L90 {p : Program} {l : Launch} {e : Env} {s : State} {m : MethodId} {args : Array Value} {below : List Frame} {meth : Method} {c : Code} {X : GX} (σr : GM) (Γ : gC X p m meth c cX6_readToken 7 s args RX6 none) (k58 : GM → Int32 → Int32 → Int32 → Int32 → Option GM) (hk58 : ∀ (σ : GM) (v3 : Int32) (v4 : Int32) (v5 : Int32) (v6 : Int32) (H : Heap) (locs : List Loc) (ls : Array Slot), gI X σ s H locs → lv_has ls 7 [(0, .ref (X.2.1 + 3)), (1, .ref (X.2.1 + 1)), (3, .int v3), (4, .int v4), (5, .int v5), (6, .int v6)] → k58 σ v3 v4 v5 v6 = some σr → W p l e ({ frames := 1, cells := 0, slots := 0, locals := 21 } : Room) s m args below meth c H locs 0 0 (MQ below (gQv X σr) args s 0 0 (gA X)) (F0 m 58 ls [])) :
    ∀ (σ : GM) (v3 : Int32) (v4 : Int32) (v5 : Int32) (v6 : Int32) (H : Heap) (locs : List Loc) (ls : Array Slot), gI X σ s H locs → lv_has ls 7 [(0, .ref (X.2.1 + 3)), (1, .ref (X.2.1 + 1)), (3, .int v3), (4, .int v4), (5, .int v5), (6, .int v6)] → f_X6_readToken_L90 k58 σ v3 v4 v5 v6 = some σr →
    W p l e ({ frames := 1, cells := 0, slots := 0, locals := 21 } : Room) s m args below meth c H locs 0 0 (MQ below (gQv X σr) args s 0 0 (gA X)) (F0 m 90 ls []) := by
  intro σ v3 v4 v5 v6 H locs ls hI hl h
  unfold f_X6_readToken_L90 at h
  refine lv_aload_n Γ.1.1 Γ.1.2.1 dX6_readToken_90 rfl (lv_at hl 1 rfl) ?_
  refine lv_iload Γ.1.1 Γ.1.2.1 dX6_readToken_91 (lv_at hl 5 rfl) ?_
  obtain ⟨r_23, hr_23, h⟩ := ob_some h
  refine g_ci Γ hI (g_runV (As := [.int v6]) Γ hI (S_X10_byteAt l X σ v6 r_23 hr_23) mf_X10_byteAt (recv_X10 Γ hI) gw_63 rfl rfl ⟨Nat.le_of_ble_eq_true rfl, Nat.le_of_ble_eq_true rfl⟩ rfl hl.1 rfl (Nat.le_of_ble_eq_true rfl) dX6_readToken_93 ⟨Nat.zero_le _, Nat.zero_le _⟩) (fun H locs hI => ?_)
  clear hr_23
  refine lv_istore_n (lv' := [(2, .int r_23), (0, .ref (X.2.1 + 3)), (1, .ref (X.2.1 + 1)), (3, .int v3), (4, .int v4), (5, .int v5), (6, .int v6)]) Γ.1.1 Γ.1.2.1 dX6_readToken_96 rfl hl (by decide) rfl (fun ls hl => ?_)
  refine lv_iload_n Γ.1.1 Γ.1.2.1 dX6_readToken_97 rfl (lv_at hl 3 rfl) ?_
  refine lv_iload_n Γ.1.1 Γ.1.2.1 dX6_readToken_98 rfl (lv_at hl 0 rfl) ?_
  obtain ⟨r_25, hr_25, h⟩ := ob_some h
  refine g_ci Γ hI (g_runS (As := [.int r_23]) Γ hI (S_X6_isLetter l X σ r_23 r_25 hr_25) mf_X6_isLetter gw_66 rfl rfl ⟨Nat.le_of_ble_eq_true rfl, Nat.le_of_ble_eq_true rfl⟩ rfl hl.1 rfl (Nat.le_of_ble_eq_true rfl) dX6_readToken_99 ⟨Nat.zero_le _, Nat.zero_le _⟩) (fun H locs hI => ?_)
  clear hr_25
  refine lv_iand Γ.1.1 Γ.1.2.1 dX6_readToken_102 ?_
  refine lv_topi (fun v3_27 e_v3_27 => ?_)
  replace h := nm_at e_v3_27 h; clear e_v3_27
  refine lv_istore_n (lv' := [(3, .int v3_27), (2, .int r_23), (0, .ref (X.2.1 + 3)), (1, .ref (X.2.1 + 1)), (4, .int v4), (5, .int v5), (6, .int v6)]) Γ.1.1 Γ.1.2.1 dX6_readToken_103 rfl hl (by decide) rfl (fun ls hl => ?_)
  refine lv_iload Γ.1.1 Γ.1.2.1 dX6_readToken_104 (lv_at hl 4 rfl) ?_
  refine lv_iload_n Γ.1.1 Γ.1.2.1 dX6_readToken_106 rfl (lv_at hl 1 rfl) ?_
  obtain ⟨r_28, hr_28, h⟩ := ob_some h
  refine g_ci Γ hI (g_runS (As := [.int r_23]) Γ hI (S_X6_isDigit l X σ r_23 r_28 hr_28) mf_X6_isDigit gw_68 rfl rfl ⟨Nat.le_of_ble_eq_true rfl, Nat.le_of_ble_eq_true rfl⟩ rfl hl.1 rfl (Nat.le_of_ble_eq_true rfl) dX6_readToken_107 ⟨Nat.zero_le _, Nat.zero_le _⟩) (fun H locs hI => ?_)
  clear hr_28
  refine lv_iand Γ.1.1 Γ.1.2.1 dX6_readToken_110 ?_
  refine lv_topi (fun v4_30 e_v4_30 => ?_)
  replace h := nm_at e_v4_30 h; clear e_v4_30
  refine lv_istore (lv' := [(4, .int v4_30), (3, .int v3_27), (2, .int r_23), (0, .ref (X.2.1 + 3)), (1, .ref (X.2.1 + 1)), (5, .int v5), (6, .int v6)]) Γ.1.1 Γ.1.2.1 dX6_readToken_111 hl (by decide) rfl (fun ls hl => ?_)
  obtain ⟨v5_31, e_v5_31, h⟩ := nm_some h
  refine lv_iinc (v := v5_31) (lv' := [(5, .int v5_31), (4, .int v4_30), (3, .int v3_27), (2, .int r_23), (0, .ref (X.2.1 + 3)), (1, .ref (X.2.1 + 1)), (6, .int v6)]) Γ.1.1 Γ.1.2.1 dX6_readToken_113 hl (k := 5) rfl (by rw [e_v5_31]; rfl) (by decide) rfl (fun ls hl => ?_)
  clear e_v5_31
  refine lv_iload Γ.1.1 Γ.1.2.1 dX6_readToken_116 (lv_at hl 0 rfl) ?_
  refine lv_bipush (v := (7 : Int32)) Γ.1.1 Γ.1.2.1 dX6_readToken_118 (by decide) ?_
  refine lv_icmp_gt (tgt := 164) Γ.1.1 Γ.1.2.1 dX6_readToken_120 (by decide) (fun c_32 => ?_) (fun c_32 => ?_)
  · replace h := ite_pos c_32 h; clear c_32
    obtain ⟨v6_33, e_v6_33, h⟩ := nm_some h
    refine lv_iinc (v := v6_33) (lv' := [(6, .int v6_33), (5, .int v5_31), (4, .int v4_30), (3, .int v3_27), (2, .int r_23), (0, .ref (X.2.1 + 3)), (1, .ref (X.2.1 + 1))]) Γ.1.1 Γ.1.2.1 dX6_readToken_164 hl (k := 6) rfl (by rw [e_v6_33]; rfl) (by decide) rfl (fun ls hl => ?_)
    clear e_v6_33
    refine lv_goto (tgt := 58) Γ.1.1 Γ.1.2.1 dX6_readToken_167 (by decide) ?_
    exact hk58 σ v3_27 v4_30 v5_31 v6_33 _ _ _ hI (lv_sub hl [5, 6, 3, 2, 1, 0] rfl) h
  · replace h := ite_neg c_32 h; clear c_32
    refine lv_aload_n Γ.1.1 Γ.1.2.1 dX6_readToken_123 rfl (lv_at hl 4 rfl) ?_
    refine lv_iload_n Γ.1.1 Γ.1.2.1 dX6_readToken_124 rfl (lv_at hl 2 rfl) ?_
    refine lv_if_eq (tgt := 147) Γ.1.1 Γ.1.2.1 dX6_readToken_125 (by decide) (fun c_34 => ?_) (fun c_34 => ?_)
    · replace h := ite_pos c_34 h; clear c_34
      refine lv_aload_n Γ.1.1 Γ.1.2.1 dX6_readToken_147 rfl (lv_at hl 4 rfl) ?_
      refine get_X6_value Γ hI gw_65 dX6_readToken_148 ?_
      refine lv_ldc2 (v := (10 : Int64)) Γ.1.1 Γ.1.2.1 Γ.1.2.2.2.1 (Γ.1.2.2.2.2 _ gw_69) dX6_readToken_151 ?_
      refine lv_lmul Γ.1.1 Γ.1.2.1 dX6_readToken_154 ?_
      refine lv_iload_n Γ.1.1 Γ.1.2.1 dX6_readToken_155 rfl (lv_at hl 3 rfl) ?_
      refine lv_bipush (v := (48 : Int32)) Γ.1.1 Γ.1.2.1 dX6_readToken_156 (by decide) ?_
      refine lv_isub Γ.1.1 Γ.1.2.1 dX6_readToken_158 ?_
      refine lv_i2l (v := (((r_23 - (48 : Int32))).toInt64)) Γ.1.1 Γ.1.2.1 dX6_readToken_159 rfl ?_
      refine lv_ladd Γ.1.1 Γ.1.2.1 dX6_readToken_160 ?_
      refine put_X6_value Γ hI gw_65 dX6_readToken_161 (fun H locs hI => ?_)
      obtain ⟨σ_35, e_m_35, h⟩ := nm_some h
      rw [← e_m_35] at hI; clear e_m_35
      obtain ⟨v6_36, e_v6_36, h⟩ := nm_some h
      refine lv_iinc (v := v6_36) (lv' := [(6, .int v6_36), (5, .int v5_31), (4, .int v4_30), (3, .int v3_27), (2, .int r_23), (0, .ref (X.2.1 + 3)), (1, .ref (X.2.1 + 1))]) Γ.1.1 Γ.1.2.1 dX6_readToken_164 hl (k := 6) rfl (by rw [e_v6_36]; rfl) (by decide) rfl (fun ls hl => ?_)
      clear e_v6_36
      refine lv_goto (tgt := 58) Γ.1.1 Γ.1.2.1 dX6_readToken_167 (by decide) ?_
      exact hk58 σ_35 v3_27 v4_30 v5_31 v6_36 _ _ _ hI (lv_sub hl [5, 6, 3, 2, 1, 0] rfl) h
    · replace h := ite_neg c_34 h; clear c_34
      refine lv_aload_n Γ.1.1 Γ.1.2.1 dX6_readToken_128 rfl (lv_at hl 4 rfl) ?_
      refine get_X6_value Γ hI gw_65 dX6_readToken_129 ?_
      refine lv_ldc2 (v := (27 : Int64)) Γ.1.1 Γ.1.2.1 Γ.1.2.2.2.1 (Γ.1.2.2.2.2 _ gw_70) dX6_readToken_132 ?_
      refine lv_lmul Γ.1.1 Γ.1.2.1 dX6_readToken_135 ?_
      refine lv_iload_n Γ.1.1 Γ.1.2.1 dX6_readToken_136 rfl (lv_at hl 3 rfl) ?_
      refine lv_bipush (v := (97 : Int32)) Γ.1.1 Γ.1.2.1 dX6_readToken_137 (by decide) ?_
      refine lv_isub Γ.1.1 Γ.1.2.1 dX6_readToken_139 ?_
      refine lv_iconst (v := (1 : Int32)) Γ.1.1 Γ.1.2.1 dX6_readToken_140 (by decide) ?_
      refine lv_iadd Γ.1.1 Γ.1.2.1 dX6_readToken_141 ?_
      refine lv_i2l (v := ((((r_23 - (97 : Int32)) + (1 : Int32))).toInt64)) Γ.1.1 Γ.1.2.1 dX6_readToken_142 rfl ?_
      refine lv_ladd Γ.1.1 Γ.1.2.1 dX6_readToken_143 ?_
      refine lv_goto (tgt := 161) Γ.1.1 Γ.1.2.1 dX6_readToken_144 (by decide) ?_
      refine put_X6_value Γ hI gw_65 dX6_readToken_161 (fun H locs hI => ?_)
      obtain ⟨σ_37, e_m_37, h⟩ := nm_some h
      rw [← e_m_37] at hI; clear e_m_37
      obtain ⟨v6_38, e_v6_38, h⟩ := nm_some h
      refine lv_iinc (v := v6_38) (lv' := [(6, .int v6_38), (5, .int v5_31), (4, .int v4_30), (3, .int v3_27), (2, .int r_23), (0, .ref (X.2.1 + 3)), (1, .ref (X.2.1 + 1))]) Γ.1.1 Γ.1.2.1 dX6_readToken_164 hl (k := 6) rfl (by rw [e_v6_38]; rfl) (by decide) rfl (fun ls hl => ?_)
      clear e_v6_38
      refine lv_goto (tgt := 58) Γ.1.1 Γ.1.2.1 dX6_readToken_167 (by decide) ?_
      exact hk58 σ_37 v3_27 v4_30 v5_31 v6_38 _ _ _ hI (lv_sub hl [5, 6, 3, 2, 1, 0] rfl) h
set_option maxRecDepth 20000 in
set_option maxHeartbeats 4000000 in
theorem s_X6_readToken_L58 {p : Program} {l : Launch} {e : Env} {s : State} {m : MethodId} {args : Array Value} {below : List Frame} {meth : Method} {c : Code} {X : GX} (σr : GM) (Γ : gC X p m meth c cX6_readToken 7 s args RX6 none) :
    ∀ (k : Nat) (σ : GM) (v3 : Int32) (v4 : Int32) (v5 : Int32) (v6 : Int32) (H : Heap) (locs : List Loc) (ls : Array Slot), gI X σ s H locs → lv_has ls 7 [(0, .ref (X.2.1 + 3)), (1, .ref (X.2.1 + 1)), (3, .int v3), (4, .int v4), (5, .int v5), (6, .int v6)] → f_X6_readToken_L58 k σ v3 v4 v5 v6 = some σr →
    W p l e ({ frames := 1, cells := 0, slots := 0, locals := 21 } : Room) s m args below meth c H locs 0 0 (MQ below (gQv X σr) args s 0 0 (gA X)) (F0 m 58 ls []) := by
  intro k
  induction k with
  | zero =>
    intro σ v3 v4 v5 v6 H locs ls hI hl h
    exact absurd h (by simp [f_X6_readToken_L58])
  | succ k ih =>
    intro σ v3 v4 v5 v6 H locs ls hI hl h
    unfold f_X6_readToken_L58 at h
    refine lv_iload Γ.1.1 Γ.1.2.1 dX6_readToken_58 (lv_at hl 5 rfl) ?_
    refine lv_sipush (v := (640 : Int32)) Γ.1.1 Γ.1.2.1 dX6_readToken_60 (by decide) ?_
    refine lv_icmp_ge (tgt := 170) Γ.1.1 Γ.1.2.1 dX6_readToken_63 (by decide) (fun c_10 => ?_) (fun c_10 => ?_)
    · replace h := ite_pos c_10 h; clear c_10
      exact s_X6_readToken_L170 σr Γ σ v3 v4 v5 _ _ _ hI (lv_sub hl [0, 2, 3, 4] rfl) h
    · replace h := ite_neg c_10 h; clear c_10
      refine lv_aload_n Γ.1.1 Γ.1.2.1 dX6_readToken_66 rfl (lv_at hl 1 rfl) ?_
      refine lv_iload Γ.1.1 Γ.1.2.1 dX6_readToken_67 (lv_at hl 5 rfl) ?_
      obtain ⟨r_18, hr_18, h⟩ := ob_some h
      refine g_ci Γ hI (g_runV (As := [.int v6]) Γ hI (S_X10_byteAt l X σ v6 r_18 hr_18) mf_X10_byteAt (recv_X10 Γ hI) gw_63 rfl rfl ⟨Nat.le_of_ble_eq_true rfl, Nat.le_of_ble_eq_true rfl⟩ rfl hl.1 rfl (Nat.le_of_ble_eq_true rfl) dX6_readToken_69 ⟨Nat.zero_le _, Nat.zero_le _⟩) (fun H locs hI => ?_)
      clear hr_18
      obtain ⟨r_20, hr_20, h⟩ := ob_some h
      refine g_ci Γ hI (g_runS (As := [.int r_18]) Γ hI (S_X6_isLetter l X σ r_18 r_20 hr_20) mf_X6_isLetter gw_66 rfl rfl ⟨Nat.le_of_ble_eq_true rfl, Nat.le_of_ble_eq_true rfl⟩ rfl hl.1 rfl (Nat.le_of_ble_eq_true rfl) dX6_readToken_72 ⟨Nat.zero_le _, Nat.zero_le _⟩) (fun H locs hI => ?_)
      clear hr_20
      refine lv_if_ne (tgt := 90) Γ.1.1 Γ.1.2.1 dX6_readToken_75 (by decide) (fun c_22 => ?_) (fun c_22 => ?_)
      · replace h := ite_neg c_22 h; clear c_22
        exact s_X6_readToken_L90 σr Γ _ ih σ v3 v4 v5 v6 _ _ _ hI hl h
      · replace h := ite_pos c_22 h; clear c_22
        refine lv_aload_n Γ.1.1 Γ.1.2.1 dX6_readToken_78 rfl (lv_at hl 1 rfl) ?_
        refine lv_iload Γ.1.1 Γ.1.2.1 dX6_readToken_79 (lv_at hl 5 rfl) ?_
        obtain ⟨r_39, hr_39, h⟩ := ob_some h
        refine g_ci Γ hI (g_runV (As := [.int v6]) Γ hI (S_X10_byteAt l X σ v6 r_39 hr_39) mf_X10_byteAt (recv_X10 Γ hI) gw_63 rfl rfl ⟨Nat.le_of_ble_eq_true rfl, Nat.le_of_ble_eq_true rfl⟩ rfl hl.1 rfl (Nat.le_of_ble_eq_true rfl) dX6_readToken_81 ⟨Nat.zero_le _, Nat.zero_le _⟩) (fun H locs hI => ?_)
        clear hr_39
        obtain ⟨r_41, hr_41, h⟩ := ob_some h
        refine g_ci Γ hI (g_runS (As := [.int r_39]) Γ hI (S_X6_isDigit l X σ r_39 r_41 hr_41) mf_X6_isDigit gw_68 rfl rfl ⟨Nat.le_of_ble_eq_true rfl, Nat.le_of_ble_eq_true rfl⟩ rfl hl.1 rfl (Nat.le_of_ble_eq_true rfl) dX6_readToken_84 ⟨Nat.zero_le _, Nat.zero_le _⟩) (fun H locs hI => ?_)
        clear hr_41
        refine lv_if_eq (tgt := 170) Γ.1.1 Γ.1.2.1 dX6_readToken_87 (by decide) (fun c_43 => ?_) (fun c_43 => ?_)
        · replace h := ite_pos c_43 h; clear c_43
          exact s_X6_readToken_L170 σr Γ σ v3 v4 v5 _ _ _ hI (lv_sub hl [0, 2, 3, 4] rfl) h
        · replace h := ite_neg c_43 h; clear c_43
          exact s_X6_readToken_L90 σr Γ _ ih σ v3 v4 v5 v6 _ _ _ hI hl h
set_option maxRecDepth 20000 in
set_option maxHeartbeats 4000000 in
theorem s_X6_readToken_L44 {p : Program} {l : Launch} {e : Env} {s : State} {m : MethodId} {args : Array Value} {below : List Frame} {meth : Method} {c : Code} {X : GX} (σr : GM) (Γ : gC X p m meth c cX6_readToken 7 s args RX6 none) :
    ∀ (σ : GM) (H : Heap) (locs : List Loc) (ls : Array Slot), gI X σ s H locs → lv_has ls 7 [(0, .ref (X.2.1 + 3)), (1, .ref (X.2.1 + 1))] → f_X6_readToken_L44 σ = some σr →
    W p l e ({ frames := 1, cells := 0, slots := 0, locals := 21 } : Room) s m args below meth c H locs 0 0 (MQ below (gQv X σr) args s 0 0 (gA X)) (F0 m 44 ls []) := by
  intro σ H locs ls hI hl h
  unfold f_X6_readToken_L44 at h
  refine lv_iconst (v := (1 : Int32)) Γ.1.1 Γ.1.2.1 dX6_readToken_44 (by decide) ?_
  refine lv_istore_n (lv' := [(3, .int (1 : Int32)), (0, .ref (X.2.1 + 3)), (1, .ref (X.2.1 + 1))]) Γ.1.1 Γ.1.2.1 dX6_readToken_45 rfl hl (by decide) rfl (fun ls hl => ?_)
  refine lv_iconst (v := (1 : Int32)) Γ.1.1 Γ.1.2.1 dX6_readToken_46 (by decide) ?_
  refine lv_istore (lv' := [(4, .int (1 : Int32)), (3, .int (1 : Int32)), (0, .ref (X.2.1 + 3)), (1, .ref (X.2.1 + 1))]) Γ.1.1 Γ.1.2.1 dX6_readToken_47 hl (by decide) rfl (fun ls hl => ?_)
  refine lv_iconst (v := (0 : Int32)) Γ.1.1 Γ.1.2.1 dX6_readToken_49 (by decide) ?_
  refine lv_istore (lv' := [(5, .int (0 : Int32)), (4, .int (1 : Int32)), (3, .int (1 : Int32)), (0, .ref (X.2.1 + 3)), (1, .ref (X.2.1 + 1))]) Γ.1.1 Γ.1.2.1 dX6_readToken_50 hl (by decide) rfl (fun ls hl => ?_)
  refine lv_aload_n Γ.1.1 Γ.1.2.1 dX6_readToken_52 rfl (lv_at hl 3 rfl) ?_
  refine get_X6_place Γ hI gw_62 dX6_readToken_53 ?_
  refine lv_topi (fun v6_9 e_v6_9 => ?_)
  replace h := nm_at e_v6_9 h; clear e_v6_9
  refine lv_istore (lv' := [(6, .int v6_9), (5, .int (0 : Int32)), (4, .int (1 : Int32)), (3, .int (1 : Int32)), (0, .ref (X.2.1 + 3)), (1, .ref (X.2.1 + 1))]) Γ.1.1 Γ.1.2.1 dX6_readToken_56 hl (by decide) rfl (fun ls hl => ?_)
  exact s_X6_readToken_L58 σr Γ _ σ (1 : Int32) (1 : Int32) (0 : Int32) v6_9 _ _ _ hI (lv_sub hl [4, 5, 3, 2, 1, 0] rfl) h
set_option maxRecDepth 20000 in
set_option maxHeartbeats 4000000 in
theorem s_X6_readToken_L21 {p : Program} {l : Launch} {e : Env} {s : State} {m : MethodId} {args : Array Value} {below : List Frame} {meth : Method} {c : Code} {X : GX} (σr : GM) (Γ : gC X p m meth c cX6_readToken 7 s args RX6 none) :
    ∀ (σ : GM) (v2 : Int32) (s1 : Int32) (H : Heap) (locs : List Loc) (ls : Array Slot), gI X σ s H locs → lv_has ls 7 [(0, .ref (X.2.1 + 3)), (1, .ref (X.2.1 + 1)), (2, .int v2)] → f_X6_readToken_L21 σ v2 s1 = some σr →
    W p l e ({ frames := 1, cells := 0, slots := 0, locals := 21 } : Room) s m args below meth c H locs 0 0 (MQ below (gQv X σr) args s 0 0 (gA X)) (F0 m 21 ls [.int s1, .ref (X.2.1 + 3)]) := by
  intro σ v2 s1 H locs ls hI hl h
  unfold f_X6_readToken_L21 at h
  refine put_X6_kind Γ hI gw_64 dX6_readToken_21 (fun H locs hI => ?_)
  obtain ⟨σ_4, e_m_4, h⟩ := nm_some h
  rw [← e_m_4] at hI; clear e_m_4
  refine lv_aload_n Γ.1.1 Γ.1.2.1 dX6_readToken_24 rfl (lv_at hl 0 rfl) ?_
  refine lv_lconst (v := (0 : Int64)) Γ.1.1 Γ.1.2.1 dX6_readToken_25 (by decide) ?_
  refine put_X6_value Γ hI gw_65 dX6_readToken_26 (fun H locs hI => ?_)
  obtain ⟨σ_5, e_m_5, h⟩ := nm_some h
  rw [← e_m_5] at hI; clear e_m_5
  refine lv_iload_n Γ.1.1 Γ.1.2.1 dX6_readToken_29 rfl (lv_at hl 2 rfl) ?_
  obtain ⟨r_6, hr_6, h⟩ := ob_some h
  refine g_ci Γ hI (g_runS (As := [.int v2]) Γ hI (S_X6_isLetter l X σ_5 v2 r_6 hr_6) mf_X6_isLetter gw_66 rfl rfl ⟨Nat.le_of_ble_eq_true rfl, Nat.le_of_ble_eq_true rfl⟩ rfl hl.1 rfl (Nat.le_of_ble_eq_true rfl) dX6_readToken_30 ⟨Nat.zero_le _, Nat.zero_le _⟩) (fun H locs hI => ?_)
  clear hr_6
  refine lv_if_ne (tgt := 44) Γ.1.1 Γ.1.2.1 dX6_readToken_33 (by decide) (fun c_8 => ?_) (fun c_8 => ?_)
  · replace h := ite_neg c_8 h; clear c_8
    exact s_X6_readToken_L44 σr Γ σ_5 _ _ _ hI (lv_sub hl [0, 1] rfl) h
  · replace h := ite_pos c_8 h; clear c_8
    refine lv_iload_n Γ.1.1 Γ.1.2.1 dX6_readToken_36 rfl (lv_at hl 2 rfl) ?_
    obtain ⟨r_44, hr_44, h⟩ := ob_some h
    refine g_ci Γ hI (g_runS (As := [.int v2]) Γ hI (S_X6_isDigit l X σ_5 v2 r_44 hr_44) mf_X6_isDigit gw_68 rfl rfl ⟨Nat.le_of_ble_eq_true rfl, Nat.le_of_ble_eq_true rfl⟩ rfl hl.1 rfl (Nat.le_of_ble_eq_true rfl) dX6_readToken_37 ⟨Nat.zero_le _, Nat.zero_le _⟩) (fun H locs hI => ?_)
    clear hr_44
    refine lv_if_ne (tgt := 44) Γ.1.1 Γ.1.2.1 dX6_readToken_40 (by decide) (fun c_46 => ?_) (fun c_46 => ?_)
    · replace h := ite_neg c_46 h; clear c_46
      exact s_X6_readToken_L44 σr Γ σ_5 _ _ _ hI (lv_sub hl [0, 1] rfl) h
    · replace h := ite_pos c_46 h; clear c_46
      exact g_vret Γ hI dX6_readToken_43 (Option.some.inj h)
set_option maxRecDepth 20000 in
set_option maxHeartbeats 4000000 in
theorem S_X6_readToken (l : Launch) (X : GX) (σ : GM) (σr : GM) (h : f_X6_readToken σ = some σr) : gMet l yX6_readToken cX6_readToken 7 none ({ frames := 1, cells := 0, slots := 0, locals := 21 } : Room) X σ [.ref (X.2.1 + 3), .ref (X.2.1 + 1)] (gQv X σr) := by
  unfold f_X6_readToken at h
  refine gMet_of (lv := [(0, .ref (X.2.1 + 3)), (1, .ref (X.2.1 + 1))]) (by decide) rfl (Nat.le_of_ble_eq_true rfl) rfl (fun p e s m below meth c H ls Γ hI hl => ?_)
  refine lv_aload_n Γ.1.1 Γ.1.2.1 dX6_readToken_0 rfl (lv_at hl 1 rfl) ?_
  refine lv_aload_n Γ.1.1 Γ.1.2.1 dX6_readToken_1 rfl (lv_at hl 0 rfl) ?_
  refine get_X6_place Γ hI gw_62 dX6_readToken_2 ?_
  obtain ⟨r_1, hr_1, h⟩ := ob_some h
  refine g_ci Γ hI (g_runV (As := [.int (σ.1 3 3)]) Γ hI (S_X10_byteAt l X σ (σ.1 3 3) r_1 hr_1) mf_X10_byteAt (recv_X10 Γ hI) gw_63 rfl rfl ⟨Nat.le_of_ble_eq_true rfl, Nat.le_of_ble_eq_true rfl⟩ rfl hl.1 rfl (Nat.le_of_ble_eq_true rfl) dX6_readToken_5 ⟨Nat.zero_le _, Nat.zero_le _⟩) (fun H locs hI => ?_)
  clear hr_1
  refine lv_istore_n (lv' := [(2, .int r_1), (0, .ref (X.2.1 + 3)), (1, .ref (X.2.1 + 1))]) Γ.1.1 Γ.1.2.1 dX6_readToken_8 rfl hl (by decide) rfl (fun ls hl => ?_)
  refine lv_aload_n Γ.1.1 Γ.1.2.1 dX6_readToken_9 rfl (lv_at hl 1 rfl) ?_
  refine lv_iload_n Γ.1.1 Γ.1.2.1 dX6_readToken_10 rfl (lv_at hl 0 rfl) ?_
  refine lv_bipush (v := (59 : Int32)) Γ.1.1 Γ.1.2.1 dX6_readToken_11 (by decide) ?_
  refine lv_icmp_ne (tgt := 20) Γ.1.1 Γ.1.2.1 dX6_readToken_13 (by decide) (fun c_3 => ?_) (fun c_3 => ?_)
  · replace h := ite_neg c_3 h; clear c_3
    refine lv_iconst (v := (0 : Int32)) Γ.1.1 Γ.1.2.1 dX6_readToken_20 (by decide) ?_
    exact s_X6_readToken_L21 σr Γ σ r_1 (0 : Int32) _ _ _ hI (lv_sub hl [1, 2, 0] rfl) h
  · replace h := ite_pos c_3 h; clear c_3
    refine lv_iconst (v := (3 : Int32)) Γ.1.1 Γ.1.2.1 dX6_readToken_16 (by decide) ?_
    refine lv_goto (tgt := 21) Γ.1.1 Γ.1.2.1 dX6_readToken_17 (by decide) ?_
    exact s_X6_readToken_L21 σr Γ σ r_1 (3 : Int32) _ _ _ hI (lv_sub hl [1, 2, 0] rfl) h
set_option maxRecDepth 20000 in
set_option maxHeartbeats 4000000 in
theorem s_X6_beginRow_L82 {p : Program} {l : Launch} {e : Env} {s : State} {m : MethodId} {args : Array Value} {below : List Frame} {meth : Method} {c : Code} {X : GX} (σr : GM) (x : Int32) (Γ : gC X p m meth c cX6_beginRow 2 s args RX6 (some .int)) :
    ∀ (σ : GM) (v1 : Int32) (H : Heap) (locs : List Loc) (ls : Array Slot), gI X σ s H locs → lv_has ls 2 [(0, .ref (X.2.1 + 3)), (1, .int v1)] → f_X6_beginRow_L82 σ v1 = some (σr, x) →
    W p l e ({ frames := 0, cells := 0, slots := 0, locals := 0 } : Room) s m args below meth c H locs 0 0 (MQ below (gQi X σr x) args s 0 0 (gA X)) (F0 m 82 ls []) := by
  intro σ v1 H locs ls hI hl h
  unfold f_X6_beginRow_L82 at h
  refine lv_aload_n Γ.1.1 Γ.1.2.1 dX6_beginRow_82 rfl (lv_at hl 0 rfl) ?_
  refine lv_iload_n Γ.1.1 Γ.1.2.1 dX6_beginRow_83 rfl (lv_at hl 1 rfl) ?_
  refine lv_if_eq (tgt := 91) Γ.1.1 Γ.1.2.1 dX6_beginRow_84 (by decide) (fun c_6 => ?_) (fun c_6 => ?_)
  · replace h := ite_pos c_6 h; clear c_6
    refine lv_iconst (v := (4 : Int32)) Γ.1.1 Γ.1.2.1 dX6_beginRow_91 (by decide) ?_
    refine put_X6_expected Γ hI gw_74 dX6_beginRow_92 (fun H locs hI => ?_)
    obtain ⟨σ_7, e_m_7, h⟩ := nm_some h
    rw [← e_m_7] at hI; clear e_m_7
    refine lv_iconst (v := (0 : Int32)) Γ.1.1 Γ.1.2.1 dX6_beginRow_95 (by decide) ?_
    exact g_iret Γ hI dX6_beginRow_96 (Prod.mk.inj (Option.some.inj h)).1 (Prod.mk.inj (Option.some.inj h)).2
  · replace h := ite_neg c_6 h; clear c_6
    refine lv_iconst (v := (1 : Int32)) Γ.1.1 Γ.1.2.1 dX6_beginRow_87 (by decide) ?_
    refine lv_goto (tgt := 92) Γ.1.1 Γ.1.2.1 dX6_beginRow_88 (by decide) ?_
    refine put_X6_expected Γ hI gw_74 dX6_beginRow_92 (fun H locs hI => ?_)
    obtain ⟨σ_8, e_m_8, h⟩ := nm_some h
    rw [← e_m_8] at hI; clear e_m_8
    refine lv_iconst (v := (0 : Int32)) Γ.1.1 Γ.1.2.1 dX6_beginRow_95 (by decide) ?_
    exact g_iret Γ hI dX6_beginRow_96 (Prod.mk.inj (Option.some.inj h)).1 (Prod.mk.inj (Option.some.inj h)).2
set_option maxRecDepth 20000 in
set_option maxHeartbeats 4000000 in
theorem s_X6_beginRow_L48 {p : Program} {l : Launch} {e : Env} {s : State} {m : MethodId} {args : Array Value} {below : List Frame} {meth : Method} {c : Code} {X : GX} (σr : GM) (x : Int32) (Γ : gC X p m meth c cX6_beginRow 2 s args RX6 (some .int)) :
    ∀ (σ : GM) (s0 : Int32) (H : Heap) (locs : List Loc) (ls : Array Slot), gI X σ s H locs → lv_has ls 2 [(0, .ref (X.2.1 + 3))] → f_X6_beginRow_L48 σ s0 = some (σr, x) →
    W p l e ({ frames := 0, cells := 0, slots := 0, locals := 0 } : Room) s m args below meth c H locs 0 0 (MQ below (gQi X σr x) args s 0 0 (gA X)) (F0 m 48 ls [.int s0]) := by
  intro σ s0 H locs ls hI hl h
  unfold f_X6_beginRow_L48 at h
  refine lv_istore_n (lv' := [(1, .int s0), (0, .ref (X.2.1 + 3))]) Γ.1.1 Γ.1.2.1 dX6_beginRow_48 rfl hl (by decide) rfl (fun ls hl => ?_)
  refine lv_iload_n Γ.1.1 Γ.1.2.1 dX6_beginRow_49 rfl (lv_at hl 0 rfl) ?_
  refine lv_if_eq (tgt := 68) Γ.1.1 Γ.1.2.1 dX6_beginRow_50 (by decide) (fun c_4 => ?_) (fun c_4 => ?_)
  · replace h := ite_pos c_4 h; clear c_4
    refine lv_aload_n Γ.1.1 Γ.1.2.1 dX6_beginRow_68 rfl (lv_at hl 1 rfl) ?_
    refine get_X6_found Γ hI gw_72 dX6_beginRow_69 ?_
    refine get_X3_lineCount sh_4 Γ hI gw_73 dX6_beginRow_72 ?_
    refine lv_bipush (v := (20 : Int32)) Γ.1.1 Γ.1.2.1 dX6_beginRow_75 (by decide) ?_
    refine lv_icmp_lt (tgt := 82) Γ.1.1 Γ.1.2.1 dX6_beginRow_77 (by decide) (fun c_5 => ?_) (fun c_5 => ?_)
    · replace h := ite_pos c_5 h; clear c_5
      exact s_X6_beginRow_L82 σr x Γ σ s0 _ _ _ hI (lv_sub hl [1, 0] rfl) h
    · replace h := ite_neg c_5 h; clear c_5
      refine lv_iconst (v := (4 : Int32)) Γ.1.1 Γ.1.2.1 dX6_beginRow_80 (by decide) ?_
      exact g_iret Γ hI dX6_beginRow_81 (Prod.mk.inj (Option.some.inj h)).1 (Prod.mk.inj (Option.some.inj h)).2
  · replace h := ite_neg c_4 h; clear c_4
    refine lv_aload_n Γ.1.1 Γ.1.2.1 dX6_beginRow_53 rfl (lv_at hl 1 rfl) ?_
    refine get_X6_found Γ hI gw_72 dX6_beginRow_54 ?_
    refine get_X3_told sh_4 Γ hI gw_75 dX6_beginRow_57 ?_
    refine lv_bipush (v := (12 : Int32)) Γ.1.1 Γ.1.2.1 dX6_beginRow_60 (by decide) ?_
    refine lv_icmp_lt (tgt := 82) Γ.1.1 Γ.1.2.1 dX6_beginRow_62 (by decide) (fun c_9 => ?_) (fun c_9 => ?_)
    · replace h := ite_pos c_9 h; clear c_9
      exact s_X6_beginRow_L82 σr x Γ σ s0 _ _ _ hI (lv_sub hl [1, 0] rfl) h
    · replace h := ite_neg c_9 h; clear c_9
      refine lv_goto (tgt := 80) Γ.1.1 Γ.1.2.1 dX6_beginRow_65 (by decide) ?_
      refine lv_iconst (v := (4 : Int32)) Γ.1.1 Γ.1.2.1 dX6_beginRow_80 (by decide) ?_
      exact g_iret Γ hI dX6_beginRow_81 (Prod.mk.inj (Option.some.inj h)).1 (Prod.mk.inj (Option.some.inj h)).2
set_option maxRecDepth 20000 in
set_option maxHeartbeats 4000000 in
theorem s_X6_beginRow_L32 {p : Program} {l : Launch} {e : Env} {s : State} {m : MethodId} {args : Array Value} {below : List Frame} {meth : Method} {c : Code} {X : GX} (σr : GM) (x : Int32) (Γ : gC X p m meth c cX6_beginRow 2 s args RX6 (some .int)) :
    ∀ (σ : GM) (H : Heap) (locs : List Loc) (ls : Array Slot), gI X σ s H locs → lv_has ls 2 [(0, .ref (X.2.1 + 3))] → f_X6_beginRow_L32 σ = some (σr, x) →
    W p l e ({ frames := 0, cells := 0, slots := 0, locals := 0 } : Room) s m args below meth c H locs 0 0 (MQ below (gQi X σr x) args s 0 0 (gA X)) (F0 m 32 ls []) := by
  intro σ H locs ls hI hl h
  unfold f_X6_beginRow_L32 at h
  refine lv_aload_n Γ.1.1 Γ.1.2.1 dX6_beginRow_32 rfl (lv_at hl 0 rfl) ?_
  refine get_X6_value Γ hI gw_65 dX6_beginRow_33 ?_
  refine lv_ldc2 (v := (8805260 : Int64)) Γ.1.1 Γ.1.2.1 Γ.1.2.2.2.1 (Γ.1.2.2.2.2 _ gw_71) dX6_beginRow_36 ?_
  refine W.lcmp Γ.1.1 Γ.1.2.1 dX6_beginRow_39 ?_
  refine lv_if_ne (tgt := 47) Γ.1.1 Γ.1.2.1 dX6_beginRow_40 (by decide) (fun c_3 => ?_) (fun c_3 => ?_)
  · replace h := ite_neg c_3 h; clear c_3
    refine lv_iconst (v := (0 : Int32)) Γ.1.1 Γ.1.2.1 dX6_beginRow_47 (by decide) ?_
    exact s_X6_beginRow_L48 σr x Γ σ (0 : Int32) _ _ _ hI hl h
  · replace h := ite_pos c_3 h; clear c_3
    refine lv_iconst (v := (1 : Int32)) Γ.1.1 Γ.1.2.1 dX6_beginRow_43 (by decide) ?_
    refine lv_goto (tgt := 48) Γ.1.1 Γ.1.2.1 dX6_beginRow_44 (by decide) ?_
    exact s_X6_beginRow_L48 σr x Γ σ (1 : Int32) _ _ _ hI hl h
set_option maxRecDepth 20000 in
set_option maxHeartbeats 4000000 in
theorem S_X6_beginRow (l : Launch) (X : GX) (σ : GM) (σr : GM) (x : Int32) (h : f_X6_beginRow σ = some (σr, x)) : gMet l yX6_beginRow cX6_beginRow 2 (some .int) ({ frames := 0, cells := 0, slots := 0, locals := 0 } : Room) X σ [.ref (X.2.1 + 3)] (gQi X σr x) := by
  unfold f_X6_beginRow at h
  refine gMet_of (lv := [(0, .ref (X.2.1 + 3))]) (by decide) rfl (Nat.le_of_ble_eq_true rfl) rfl (fun p e s m below meth c H ls Γ hI hl => ?_)
  refine lv_aload_n Γ.1.1 Γ.1.2.1 dX6_beginRow_0 rfl (lv_at hl 0 rfl) ?_
  refine get_X6_kind Γ hI gw_64 dX6_beginRow_1 ?_
  refine lv_iconst (v := (1 : Int32)) Γ.1.1 Γ.1.2.1 dX6_beginRow_4 (by decide) ?_
  refine lv_icmp_ne (tgt := 30) Γ.1.1 Γ.1.2.1 dX6_beginRow_5 (by decide) (fun c_1 => ?_) (fun c_1 => ?_)
  · replace h := ite_neg c_1 h; clear c_1
    refine lv_iconst (v := (1 : Int32)) Γ.1.1 Γ.1.2.1 dX6_beginRow_30 (by decide) ?_
    exact g_iret Γ hI dX6_beginRow_31 (Prod.mk.inj (Option.some.inj h)).1 (Prod.mk.inj (Option.some.inj h)).2
  · replace h := ite_pos c_1 h; clear c_1
    refine lv_aload_n Γ.1.1 Γ.1.2.1 dX6_beginRow_8 rfl (lv_at hl 0 rfl) ?_
    refine get_X6_value Γ hI gw_65 dX6_beginRow_9 ?_
    refine lv_ldc2 (v := (8805260 : Int64)) Γ.1.1 Γ.1.2.1 Γ.1.2.2.2.1 (Γ.1.2.2.2.2 _ gw_71) dX6_beginRow_12 ?_
    refine W.lcmp Γ.1.1 Γ.1.2.1 dX6_beginRow_15 ?_
    refine lv_if_eq (tgt := 32) Γ.1.1 Γ.1.2.1 dX6_beginRow_16 (by decide) (fun c_2 => ?_) (fun c_2 => ?_)
    · replace h := ite_pos c_2 h; clear c_2
      exact s_X6_beginRow_L32 σr x Γ σ _ _ _ hI hl h
    · replace h := ite_neg c_2 h; clear c_2
      refine lv_aload_n Γ.1.1 Γ.1.2.1 dX6_beginRow_19 rfl (lv_at hl 0 rfl) ?_
      refine get_X6_value Γ hI gw_65 dX6_beginRow_20 ?_
      refine lv_ldc2 (v := (243140 : Int64)) Γ.1.1 Γ.1.2.1 Γ.1.2.2.2.1 (Γ.1.2.2.2.2 _ gw_76) dX6_beginRow_23 ?_
      refine W.lcmp Γ.1.1 Γ.1.2.1 dX6_beginRow_26 ?_
      refine lv_if_eq (tgt := 32) Γ.1.1 Γ.1.2.1 dX6_beginRow_27 (by decide) (fun c_10 => ?_) (fun c_10 => ?_)
      · replace h := ite_pos c_10 h; clear c_10
        exact s_X6_beginRow_L32 σr x Γ σ _ _ _ hI hl h
      · replace h := ite_neg c_10 h; clear c_10
        refine lv_iconst (v := (1 : Int32)) Γ.1.1 Γ.1.2.1 dX6_beginRow_30 (by decide) ?_
        exact g_iret Γ hI dX6_beginRow_31 (Prod.mk.inj (Option.some.inj h)).1 (Prod.mk.inj (Option.some.inj h)).2
set_option maxRecDepth 20000 in
set_option maxHeartbeats 4000000 in
theorem S_X6_isName (l : Launch) (X : GX) (σ : GM) (x : Int32) (h : f_X6_isName σ = some x) : gMet l yX6_isName cX6_isName 1 (some .boolean) ({ frames := 0, cells := 0, slots := 0, locals := 0 } : Room) X σ [.ref (X.2.1 + 3)] (gQi X σ x) := by
  unfold f_X6_isName at h
  refine gMet_of (lv := [(0, .ref (X.2.1 + 3))]) (by decide) rfl (Nat.le_of_ble_eq_true rfl) rfl (fun p e s m below meth c H ls Γ hI hl => ?_)
  refine lv_aload_n Γ.1.1 Γ.1.2.1 dX6_isName_0 rfl (lv_at hl 0 rfl) ?_
  refine get_X6_kind Γ hI gw_64 dX6_isName_1 ?_
  refine lv_iconst (v := (1 : Int32)) Γ.1.1 Γ.1.2.1 dX6_isName_4 (by decide) ?_
  refine lv_icmp_ne (tgt := 34) Γ.1.1 Γ.1.2.1 dX6_isName_5 (by decide) (fun c_1 => ?_) (fun c_1 => ?_)
  · replace h := ite_neg c_1 h; clear c_1
    refine lv_iconst (v := (0 : Int32)) Γ.1.1 Γ.1.2.1 dX6_isName_34 (by decide) ?_
    exact g_zret Γ hI dX6_isName_35 rfl (Option.some.inj h)
  · replace h := ite_pos c_1 h; clear c_1
    refine lv_aload_n Γ.1.1 Γ.1.2.1 dX6_isName_8 rfl (lv_at hl 0 rfl) ?_
    refine get_X6_value Γ hI gw_65 dX6_isName_9 ?_
    refine lv_ldc2 (v := (8805260 : Int64)) Γ.1.1 Γ.1.2.1 Γ.1.2.2.2.1 (Γ.1.2.2.2.2 _ gw_71) dX6_isName_12 ?_
    refine W.lcmp Γ.1.1 Γ.1.2.1 dX6_isName_15 ?_
    refine lv_if_eq (tgt := 34) Γ.1.1 Γ.1.2.1 dX6_isName_16 (by decide) (fun c_2 => ?_) (fun c_2 => ?_)
    · replace h := ite_pos c_2 h; clear c_2
      refine lv_iconst (v := (0 : Int32)) Γ.1.1 Γ.1.2.1 dX6_isName_34 (by decide) ?_
      exact g_zret Γ hI dX6_isName_35 rfl (Option.some.inj h)
    · replace h := ite_neg c_2 h; clear c_2
      refine lv_aload_n Γ.1.1 Γ.1.2.1 dX6_isName_19 rfl (lv_at hl 0 rfl) ?_
      refine get_X6_value Γ hI gw_65 dX6_isName_20 ?_
      refine lv_ldc2 (v := (243140 : Int64)) Γ.1.1 Γ.1.2.1 Γ.1.2.2.2.1 (Γ.1.2.2.2.2 _ gw_76) dX6_isName_23 ?_
      refine W.lcmp Γ.1.1 Γ.1.2.1 dX6_isName_26 ?_
      refine lv_if_eq (tgt := 34) Γ.1.1 Γ.1.2.1 dX6_isName_27 (by decide) (fun c_3 => ?_) (fun c_3 => ?_)
      · replace h := ite_pos c_3 h; clear c_3
        refine lv_iconst (v := (0 : Int32)) Γ.1.1 Γ.1.2.1 dX6_isName_34 (by decide) ?_
        exact g_zret Γ hI dX6_isName_35 rfl (Option.some.inj h)
      · replace h := ite_neg c_3 h; clear c_3
        refine lv_iconst (v := (1 : Int32)) Γ.1.1 Γ.1.2.1 dX6_isName_30 (by decide) ?_
        refine lv_goto (tgt := 35) Γ.1.1 Γ.1.2.1 dX6_isName_31 (by decide) ?_
        exact g_zret Γ hI dX6_isName_35 rfl (Option.some.inj h)
set_option maxRecDepth 20000 in
set_option maxHeartbeats 4000000 in
theorem s_X6_pointNamed_L2 {p : Program} {l : Launch} {e : Env} {s : State} {m : MethodId} {args : Array Value} {below : List Frame} {meth : Method} {c : Code} {X : GX} (σ : GM) (x : Int32) (Γ : gC X p m meth c cX6_pointNamed 4 s args RX6 (some .int)) (v1 : Int64) :
    ∀ (k : Nat) (v3 : Int32) (H : Heap) (locs : List Loc) (ls : Array Slot), gI X σ s H locs → lv_has ls 4 [(0, .ref (X.2.1 + 3)), (1, .long v1), (3, .int v3)] → f_X6_pointNamed_L2 σ v1 k v3 = some x →
    W p l e ({ frames := 0, cells := 0, slots := 0, locals := 0 } : Room) s m args below meth c H locs 0 0 (MQ below (gQi X σ x) args s 0 0 (gA X)) (F0 m 2 ls []) := by
  intro k
  induction k with
  | zero =>
    intro v3 H locs ls hI hl h
    exact absurd h (by simp [f_X6_pointNamed_L2])
  | succ k ih =>
    intro v3 H locs ls hI hl h
    unfold f_X6_pointNamed_L2 at h
    refine lv_iload_n Γ.1.1 Γ.1.2.1 dX6_pointNamed_2 rfl (lv_at hl 2 rfl) ?_
    refine lv_aload_n Γ.1.1 Γ.1.2.1 dX6_pointNamed_3 rfl (lv_at hl 0 rfl) ?_
    refine get_X6_names Γ hI gw_77 dX6_pointNamed_4 ?_
    refine g_alen Γ hI sh_7 (by decide) (v := (12 : Int32)) (by decide) dX6_pointNamed_7 ?_
    refine lv_icmp_ge (tgt := 41) Γ.1.1 Γ.1.2.1 dX6_pointNamed_8 (by decide) (fun c_1 => ?_) (fun c_1 => ?_)
    · replace h := ite_pos c_1 h; clear c_1
      refine lv_iconst (v := (-1 : Int32)) Γ.1.1 Γ.1.2.1 dX6_pointNamed_41 (by decide) ?_
      exact g_iret Γ hI dX6_pointNamed_42 rfl (Option.some.inj h)
    · replace h := ite_neg c_1 h; clear c_1
      refine lv_iload_n Γ.1.1 Γ.1.2.1 dX6_pointNamed_11 rfl (lv_at hl 2 rfl) ?_
      refine lv_aload_n Γ.1.1 Γ.1.2.1 dX6_pointNamed_12 rfl (lv_at hl 0 rfl) ?_
      refine get_X6_found Γ hI gw_72 dX6_pointNamed_13 ?_
      refine get_X3_told sh_4 Γ hI gw_75 dX6_pointNamed_16 ?_
      refine lv_icmp_ge (tgt := 41) Γ.1.1 Γ.1.2.1 dX6_pointNamed_19 (by decide) (fun c_2 => ?_) (fun c_2 => ?_)
      · replace h := ite_pos c_2 h; clear c_2
        refine lv_iconst (v := (-1 : Int32)) Γ.1.1 Γ.1.2.1 dX6_pointNamed_41 (by decide) ?_
        exact g_iret Γ hI dX6_pointNamed_42 rfl (Option.some.inj h)
      · replace h := ite_neg c_2 h; clear c_2
        refine lv_aload_n Γ.1.1 Γ.1.2.1 dX6_pointNamed_22 rfl (lv_at hl 0 rfl) ?_
        refine get_X6_names Γ hI gw_77 dX6_pointNamed_23 ?_
        refine lv_iload_n Γ.1.1 Γ.1.2.1 dX6_pointNamed_26 rfl (lv_at hl 2 rfl) ?_
        obtain ⟨hb_3, h⟩ := bnd_some h
        refine g_lald Γ hI sh_7 hb_3 dX6_pointNamed_27 ?_
        refine lv_lload_n Γ.1.1 Γ.1.2.1 dX6_pointNamed_28 rfl (lv_at hl 1 rfl) ?_
        refine W.lcmp Γ.1.1 Γ.1.2.1 dX6_pointNamed_29 ?_
        refine lv_if_ne (tgt := 35) Γ.1.1 Γ.1.2.1 dX6_pointNamed_30 (by decide) (fun c_4 => ?_) (fun c_4 => ?_)
        · replace h := ite_neg c_4 h; clear c_4
          obtain ⟨v3_5, e_v3_5, h⟩ := nm_some h
          refine lv_iinc (v := v3_5) (lv' := [(3, .int v3_5), (0, .ref (X.2.1 + 3)), (1, .long v1)]) Γ.1.1 Γ.1.2.1 dX6_pointNamed_35 hl (k := 2) rfl (by rw [e_v3_5]; rfl) (by decide) rfl (fun ls hl => ?_)
          clear e_v3_5
          refine lv_goto (tgt := 2) Γ.1.1 Γ.1.2.1 dX6_pointNamed_38 (by decide) ?_
          exact ih v3_5 _ _ _ hI (lv_sub hl [1, 2, 0] rfl) h
        · replace h := ite_pos c_4 h; clear c_4
          refine lv_iload_n Γ.1.1 Γ.1.2.1 dX6_pointNamed_33 rfl (lv_at hl 2 rfl) ?_
          exact g_iret Γ hI dX6_pointNamed_34 rfl (Option.some.inj h)
set_option maxRecDepth 20000 in
set_option maxHeartbeats 4000000 in
theorem S_X6_pointNamed (l : Launch) (X : GX) (σ : GM) (v1 : Int64) (x : Int32) (h : f_X6_pointNamed σ v1 = some x) : gMet l yX6_pointNamed cX6_pointNamed 4 (some .int) ({ frames := 0, cells := 0, slots := 0, locals := 0 } : Room) X σ [.ref (X.2.1 + 3), .long v1] (gQi X σ x) := by
  unfold f_X6_pointNamed at h
  refine gMet_of (lv := [(0, .ref (X.2.1 + 3)), (1, .long v1)]) (by decide) rfl (Nat.le_of_ble_eq_true rfl) rfl (fun p e s m below meth c H ls Γ hI hl => ?_)
  refine lv_iconst (v := (0 : Int32)) Γ.1.1 Γ.1.2.1 dX6_pointNamed_0 (by decide) ?_
  refine lv_istore_n (lv' := [(3, .int (0 : Int32)), (0, .ref (X.2.1 + 3)), (1, .long v1)]) Γ.1.1 Γ.1.2.1 dX6_pointNamed_1 rfl hl (by decide) rfl (fun ls hl => ?_)
  exact s_X6_pointNamed_L2 σ x Γ v1 _ (0 : Int32) _ _ _ hI (lv_sub hl [1, 2, 0] rfl) h
set_option maxRecDepth 20000 in
set_option maxHeartbeats 4000000 in
theorem S_X6_takeName (l : Launch) (X : GX) (σ : GM) (σr : GM) (x : Int32) (h : f_X6_takeName σ = some (σr, x)) : gMet l yX6_takeName cX6_takeName 2 (some .int) ({ frames := 1, cells := 0, slots := 0, locals := 23 } : Room) X σ [.ref (X.2.1 + 3)] (gQi X σr x) := by
  unfold f_X6_takeName at h
  refine gMet_of (lv := [(0, .ref (X.2.1 + 3))]) (by decide) rfl (Nat.le_of_ble_eq_true rfl) rfl (fun p e s m below meth c H ls Γ hI hl => ?_)
  refine lv_aload_n Γ.1.1 Γ.1.2.1 dX6_takeName_0 rfl (lv_at hl 0 rfl) ?_
  obtain ⟨r_1, hr_1, h⟩ := ob_some h
  refine g_ci Γ hI (g_runV (As := []) Γ hI (S_X6_isName l X σ r_1 hr_1) mf_X6_isName (recv_X6 Γ hI) gw_78 rfl rfl ⟨Nat.le_of_ble_eq_true rfl, Nat.le_of_ble_eq_true rfl⟩ rfl hl.1 rfl (Nat.le_of_ble_eq_true rfl) dX6_takeName_1 ⟨Nat.zero_le _, Nat.zero_le _⟩) (fun H locs hI => ?_)
  clear hr_1
  refine lv_if_ne (tgt := 9) Γ.1.1 Γ.1.2.1 dX6_takeName_4 (by decide) (fun c_3 => ?_) (fun c_3 => ?_)
  · replace h := ite_neg c_3 h; clear c_3
    refine lv_aload_n Γ.1.1 Γ.1.2.1 dX6_takeName_9 rfl (lv_at hl 0 rfl) ?_
    refine get_X6_found Γ hI gw_72 dX6_takeName_10 ?_
    refine get_X3_told sh_4 Γ hI gw_75 dX6_takeName_13 ?_
    refine lv_topi (fun v1_4 e_v1_4 => ?_)
    replace h := nm_at e_v1_4 h; clear e_v1_4
    refine lv_istore_n (lv' := [(1, .int v1_4), (0, .ref (X.2.1 + 3))]) Γ.1.1 Γ.1.2.1 dX6_takeName_16 rfl hl (by decide) rfl (fun ls hl => ?_)
    refine lv_aload_n Γ.1.1 Γ.1.2.1 dX6_takeName_17 rfl (lv_at hl 1 rfl) ?_
    refine lv_aload_n Γ.1.1 Γ.1.2.1 dX6_takeName_18 rfl (lv_at hl 1 rfl) ?_
    refine get_X6_value Γ hI gw_65 dX6_takeName_19 ?_
    obtain ⟨r_5, hr_5, h⟩ := ob_some h
    refine g_ci Γ hI (g_runV (As := [.long (σ.2 3 7)]) Γ hI (S_X6_pointNamed l X σ (σ.2 3 7) r_5 hr_5) mf_X6_pointNamed (recv_X6 Γ hI) gw_79 rfl rfl ⟨Nat.le_of_ble_eq_true rfl, Nat.le_of_ble_eq_true rfl⟩ rfl hl.1 rfl (Nat.le_of_ble_eq_true rfl) dX6_takeName_22 ⟨Nat.zero_le _, Nat.zero_le _⟩) (fun H locs hI => ?_)
    clear hr_5
    refine lv_iconst (v := (-1 : Int32)) Γ.1.1 Γ.1.2.1 dX6_takeName_25 (by decide) ?_
    refine lv_icmp_eq (tgt := 31) Γ.1.1 Γ.1.2.1 dX6_takeName_26 (by decide) (fun c_7 => ?_) (fun c_7 => ?_)
    · replace h := ite_pos c_7 h; clear c_7
      refine lv_iload_n Γ.1.1 Γ.1.2.1 dX6_takeName_31 rfl (lv_at hl 0 rfl) ?_
      refine lv_if_lt (tgt := 44) Γ.1.1 Γ.1.2.1 dX6_takeName_32 (by decide) (fun c_8 => ?_) (fun c_8 => ?_)
      · replace h := ite_pos c_8 h; clear c_8
        refine lv_iconst (v := (4 : Int32)) Γ.1.1 Γ.1.2.1 dX6_takeName_44 (by decide) ?_
        exact g_iret Γ hI dX6_takeName_45 (Prod.mk.inj (Option.some.inj h)).1 (Prod.mk.inj (Option.some.inj h)).2
      · replace h := ite_neg c_8 h; clear c_8
        refine lv_iload_n Γ.1.1 Γ.1.2.1 dX6_takeName_35 rfl (lv_at hl 0 rfl) ?_
        refine lv_aload_n Γ.1.1 Γ.1.2.1 dX6_takeName_36 rfl (lv_at hl 1 rfl) ?_
        refine get_X6_names Γ hI gw_77 dX6_takeName_37 ?_
        refine g_alen Γ hI sh_7 (by decide) (v := (12 : Int32)) (by decide) dX6_takeName_40 ?_
        refine lv_icmp_lt (tgt := 46) Γ.1.1 Γ.1.2.1 dX6_takeName_41 (by decide) (fun c_9 => ?_) (fun c_9 => ?_)
        · replace h := ite_pos c_9 h; clear c_9
          refine lv_aload_n Γ.1.1 Γ.1.2.1 dX6_takeName_46 rfl (lv_at hl 1 rfl) ?_
          refine get_X6_names Γ hI gw_77 dX6_takeName_47 ?_
          refine lv_iload_n Γ.1.1 Γ.1.2.1 dX6_takeName_50 rfl (lv_at hl 0 rfl) ?_
          refine lv_aload_n Γ.1.1 Γ.1.2.1 dX6_takeName_51 rfl (lv_at hl 1 rfl) ?_
          refine get_X6_value Γ hI gw_65 dX6_takeName_52 ?_
          obtain ⟨hb_10, h⟩ := bnd_some h
          refine g_last Γ hI sh_7 hb_10 dX6_takeName_55 (fun H locs hI => ?_)
          obtain ⟨σ_11, e_m_11, h⟩ := nm_some h
          rw [← e_m_11] at hI; clear e_m_11
          refine lv_aload_n Γ.1.1 Γ.1.2.1 dX6_takeName_56 rfl (lv_at hl 1 rfl) ?_
          refine get_X6_found Γ hI gw_72 dX6_takeName_57 ?_
          obtain ⟨σ_13, hr_12, h⟩ := ob_some h
          refine g_cv Γ hI (g_runV (As := []) Γ hI (S_X3_addPoint l X σ_11 4 sh_4 σ_13 hr_12) mf_X3_addPoint (recv_X3 sh_4 Γ hI) gw_80 rfl rfl ⟨Nat.le_of_ble_eq_true rfl, Nat.le_of_ble_eq_true rfl⟩ rfl hl.1 rfl (Nat.le_of_ble_eq_true rfl) dX6_takeName_60 ⟨Nat.zero_le _, Nat.zero_le _⟩) (fun H locs hI => ?_)
          clear hr_12
          refine lv_aload_n Γ.1.1 Γ.1.2.1 dX6_takeName_63 rfl (lv_at hl 1 rfl) ?_
          refine lv_iconst (v := (2 : Int32)) Γ.1.1 Γ.1.2.1 dX6_takeName_64 (by decide) ?_
          refine put_X6_expected Γ hI gw_74 dX6_takeName_65 (fun H locs hI => ?_)
          obtain ⟨σ_14, e_m_14, h⟩ := nm_some h
          rw [← e_m_14] at hI; clear e_m_14
          refine lv_iconst (v := (0 : Int32)) Γ.1.1 Γ.1.2.1 dX6_takeName_68 (by decide) ?_
          exact g_iret Γ hI dX6_takeName_69 (Prod.mk.inj (Option.some.inj h)).1 (Prod.mk.inj (Option.some.inj h)).2
        · replace h := ite_neg c_9 h; clear c_9
          refine lv_iconst (v := (4 : Int32)) Γ.1.1 Γ.1.2.1 dX6_takeName_44 (by decide) ?_
          exact g_iret Γ hI dX6_takeName_45 (Prod.mk.inj (Option.some.inj h)).1 (Prod.mk.inj (Option.some.inj h)).2
    · replace h := ite_neg c_7 h; clear c_7
      refine lv_iconst (v := (3 : Int32)) Γ.1.1 Γ.1.2.1 dX6_takeName_29 (by decide) ?_
      exact g_iret Γ hI dX6_takeName_30 (Prod.mk.inj (Option.some.inj h)).1 (Prod.mk.inj (Option.some.inj h)).2
  · replace h := ite_pos c_3 h; clear c_3
    refine lv_iconst (v := (1 : Int32)) Γ.1.1 Γ.1.2.1 dX6_takeName_7 (by decide) ?_
    exact g_iret Γ hI dX6_takeName_8 (Prod.mk.inj (Option.some.inj h)).1 (Prod.mk.inj (Option.some.inj h)).2
set_option maxRecDepth 20000 in
set_option maxHeartbeats 4000000 in
theorem S_X6_takeWeight (l : Launch) (X : GX) (σ : GM) (σr : GM) (x : Int32) (h : f_X6_takeWeight σ = some (σr, x)) : gMet l yX6_takeWeight cX6_takeWeight 1 (some .int) ({ frames := 3, cells := 0, slots := 0, locals := 64 } : Room) X σ [.ref (X.2.1 + 3)] (gQi X σr x) := by
  unfold f_X6_takeWeight at h
  refine gMet_of (lv := [(0, .ref (X.2.1 + 3))]) (by decide) rfl (Nat.le_of_ble_eq_true rfl) rfl (fun p e s m below meth c H ls Γ hI hl => ?_)
  refine lv_aload_n Γ.1.1 Γ.1.2.1 dX6_takeWeight_0 rfl (lv_at hl 0 rfl) ?_
  refine get_X6_value Γ hI gw_65 dX6_takeWeight_1 ?_
  refine lv_lconst (v := (1 : Int64)) Γ.1.1 Γ.1.2.1 dX6_takeWeight_4 (by decide) ?_
  refine W.lcmp Γ.1.1 Γ.1.2.1 dX6_takeWeight_5 ?_
  refine lv_if_lt (tgt := 20) Γ.1.1 Γ.1.2.1 dX6_takeWeight_6 (by decide) (fun c_1 => ?_) (fun c_1 => ?_)
  · replace h := ite_pos c_1 h; clear c_1
    refine lv_iconst (v := (2 : Int32)) Γ.1.1 Γ.1.2.1 dX6_takeWeight_20 (by decide) ?_
    exact g_iret Γ hI dX6_takeWeight_21 (Prod.mk.inj (Option.some.inj h)).1 (Prod.mk.inj (Option.some.inj h)).2
  · replace h := ite_neg c_1 h; clear c_1
    refine lv_aload_n Γ.1.1 Γ.1.2.1 dX6_takeWeight_9 rfl (lv_at hl 0 rfl) ?_
    refine get_X6_value Γ hI gw_65 dX6_takeWeight_10 ?_
    refine lv_ldc2 (v := (9 : Int64)) Γ.1.1 Γ.1.2.1 Γ.1.2.2.2.1 (Γ.1.2.2.2.2 _ gw_81) dX6_takeWeight_13 ?_
    refine W.lcmp Γ.1.1 Γ.1.2.1 dX6_takeWeight_16 ?_
    refine lv_if_le (tgt := 22) Γ.1.1 Γ.1.2.1 dX6_takeWeight_17 (by decide) (fun c_2 => ?_) (fun c_2 => ?_)
    · replace h := ite_pos c_2 h; clear c_2
      refine lv_aload_n Γ.1.1 Γ.1.2.1 dX6_takeWeight_22 rfl (lv_at hl 0 rfl) ?_
      refine get_X6_found Γ hI gw_72 dX6_takeWeight_23 ?_
      refine lv_aload_n Γ.1.1 Γ.1.2.1 dX6_takeWeight_26 rfl (lv_at hl 0 rfl) ?_
      refine get_X6_found Γ hI gw_72 dX6_takeWeight_27 ?_
      refine get_X3_told sh_4 Γ hI gw_75 dX6_takeWeight_30 ?_
      refine lv_iconst (v := (1 : Int32)) Γ.1.1 Γ.1.2.1 dX6_takeWeight_33 (by decide) ?_
      refine lv_isub Γ.1.1 Γ.1.2.1 dX6_takeWeight_34 ?_
      refine lv_aload_n Γ.1.1 Γ.1.2.1 dX6_takeWeight_35 rfl (lv_at hl 0 rfl) ?_
      refine get_X6_value Γ hI gw_65 dX6_takeWeight_36 ?_
      refine lv_l2i (v := (((σ.2 3 7)).toInt32)) Γ.1.1 Γ.1.2.1 dX6_takeWeight_39 rfl ?_
      obtain ⟨σ_4, r_3, hr_3, h⟩ := ob2_some h
      refine g_ci Γ hI (g_runV (As := [.int ((σ.1 4 2) - (1 : Int32)), .int (((σ.2 3 7)).toInt32)]) Γ hI (S_X3_changeWeight l X σ 4 sh_4 ((σ.1 4 2) - (1 : Int32)) (((σ.2 3 7)).toInt32) σ_4 r_3 hr_3) mf_X3_changeWeight (recv_X3 sh_4 Γ hI) gw_82 rfl rfl ⟨Nat.le_of_ble_eq_true rfl, Nat.le_of_ble_eq_true rfl⟩ rfl hl.1 rfl (Nat.le_of_ble_eq_true rfl) dX6_takeWeight_40 ⟨Nat.zero_le _, Nat.zero_le _⟩) (fun H locs hI => ?_)
      clear hr_3
      refine lv_pop Γ.1.1 Γ.1.2.1 dX6_takeWeight_43 rfl ?_
      refine lv_aload_n Γ.1.1 Γ.1.2.1 dX6_takeWeight_44 rfl (lv_at hl 0 rfl) ?_
      refine lv_iconst (v := (3 : Int32)) Γ.1.1 Γ.1.2.1 dX6_takeWeight_45 (by decide) ?_
      refine put_X6_expected Γ hI gw_74 dX6_takeWeight_46 (fun H locs hI => ?_)
      obtain ⟨σ_5, e_m_5, h⟩ := nm_some h
      rw [← e_m_5] at hI; clear e_m_5
      refine lv_iconst (v := (0 : Int32)) Γ.1.1 Γ.1.2.1 dX6_takeWeight_49 (by decide) ?_
      exact g_iret Γ hI dX6_takeWeight_50 (Prod.mk.inj (Option.some.inj h)).1 (Prod.mk.inj (Option.some.inj h)).2
    · replace h := ite_neg c_2 h; clear c_2
      refine lv_iconst (v := (2 : Int32)) Γ.1.1 Γ.1.2.1 dX6_takeWeight_20 (by decide) ?_
      exact g_iret Γ hI dX6_takeWeight_21 (Prod.mk.inj (Option.some.inj h)).1 (Prod.mk.inj (Option.some.inj h)).2
set_option maxRecDepth 20000 in
set_option maxHeartbeats 4000000 in
theorem S_X6_takeSign (l : Launch) (X : GX) (σ : GM) (σr : GM) (x : Int32) (h : f_X6_takeSign σ = some (σr, x)) : gMet l yX6_takeSign cX6_takeSign 1 (some .int) ({ frames := 0, cells := 0, slots := 0, locals := 0 } : Room) X σ [.ref (X.2.1 + 3)] (gQi X σr x) := by
  unfold f_X6_takeSign at h
  refine gMet_of (lv := [(0, .ref (X.2.1 + 3))]) (by decide) rfl (Nat.le_of_ble_eq_true rfl) rfl (fun p e s m below meth c H ls Γ hI hl => ?_)
  refine lv_aload_n Γ.1.1 Γ.1.2.1 dX6_takeSign_0 rfl (lv_at hl 0 rfl) ?_
  refine get_X6_kind Γ hI gw_64 dX6_takeSign_1 ?_
  refine lv_iconst (v := (3 : Int32)) Γ.1.1 Γ.1.2.1 dX6_takeSign_4 (by decide) ?_
  refine lv_icmp_eq (tgt := 10) Γ.1.1 Γ.1.2.1 dX6_takeSign_5 (by decide) (fun c_1 => ?_) (fun c_1 => ?_)
  · replace h := ite_pos c_1 h; clear c_1
    refine lv_aload_n Γ.1.1 Γ.1.2.1 dX6_takeSign_10 rfl (lv_at hl 0 rfl) ?_
    refine lv_dup Γ.1.1 Γ.1.2.1 dX6_takeSign_11 rfl ?_
    refine get_X6_rows Γ hI gw_83 dX6_takeSign_12 ?_
    refine lv_iconst (v := (1 : Int32)) Γ.1.1 Γ.1.2.1 dX6_takeSign_15 (by decide) ?_
    refine lv_iadd Γ.1.1 Γ.1.2.1 dX6_takeSign_16 ?_
    refine put_X6_rows Γ hI gw_83 dX6_takeSign_17 (fun H locs hI => ?_)
    obtain ⟨σ_2, e_m_2, h⟩ := nm_some h
    rw [← e_m_2] at hI; clear e_m_2
    refine lv_aload_n Γ.1.1 Γ.1.2.1 dX6_takeSign_20 rfl (lv_at hl 0 rfl) ?_
    refine lv_iconst (v := (0 : Int32)) Γ.1.1 Γ.1.2.1 dX6_takeSign_21 (by decide) ?_
    refine put_X6_expected Γ hI gw_74 dX6_takeSign_22 (fun H locs hI => ?_)
    obtain ⟨σ_3, e_m_3, h⟩ := nm_some h
    rw [← e_m_3] at hI; clear e_m_3
    refine lv_iconst (v := (0 : Int32)) Γ.1.1 Γ.1.2.1 dX6_takeSign_25 (by decide) ?_
    exact g_iret Γ hI dX6_takeSign_26 (Prod.mk.inj (Option.some.inj h)).1 (Prod.mk.inj (Option.some.inj h)).2
  · replace h := ite_neg c_1 h; clear c_1
    refine lv_iconst (v := (1 : Int32)) Γ.1.1 Γ.1.2.1 dX6_takeSign_8 (by decide) ?_
    exact g_iret Γ hI dX6_takeSign_9 (Prod.mk.inj (Option.some.inj h)).1 (Prod.mk.inj (Option.some.inj h)).2
set_option maxRecDepth 20000 in
set_option maxHeartbeats 4000000 in
theorem S_X6_takeFirst (l : Launch) (X : GX) (σ : GM) (σr : GM) (x : Int32) (h : f_X6_takeFirst σ = some (σr, x)) : gMet l yX6_takeFirst cX6_takeFirst 1 (some .int) ({ frames := 2, cells := 0, slots := 0, locals := 47 } : Room) X σ [.ref (X.2.1 + 3)] (gQi X σr x) := by
  unfold f_X6_takeFirst at h
  refine gMet_of (lv := [(0, .ref (X.2.1 + 3))]) (by decide) rfl (Nat.le_of_ble_eq_true rfl) rfl (fun p e s m below meth c H ls Γ hI hl => ?_)
  refine lv_aload_n Γ.1.1 Γ.1.2.1 dX6_takeFirst_0 rfl (lv_at hl 0 rfl) ?_
  obtain ⟨r_1, hr_1, h⟩ := ob_some h
  refine g_ci Γ hI (g_runV (As := []) Γ hI (S_X6_isName l X σ r_1 hr_1) mf_X6_isName (recv_X6 Γ hI) gw_78 rfl rfl ⟨Nat.le_of_ble_eq_true rfl, Nat.le_of_ble_eq_true rfl⟩ rfl hl.1 rfl (Nat.le_of_ble_eq_true rfl) dX6_takeFirst_1 ⟨Nat.zero_le _, Nat.zero_le _⟩) (fun H locs hI => ?_)
  clear hr_1
  refine lv_if_ne (tgt := 9) Γ.1.1 Γ.1.2.1 dX6_takeFirst_4 (by decide) (fun c_3 => ?_) (fun c_3 => ?_)
  · replace h := ite_neg c_3 h; clear c_3
    refine lv_aload_n Γ.1.1 Γ.1.2.1 dX6_takeFirst_9 rfl (lv_at hl 0 rfl) ?_
    refine lv_aload_n Γ.1.1 Γ.1.2.1 dX6_takeFirst_10 rfl (lv_at hl 0 rfl) ?_
    refine lv_aload_n Γ.1.1 Γ.1.2.1 dX6_takeFirst_11 rfl (lv_at hl 0 rfl) ?_
    refine get_X6_value Γ hI gw_65 dX6_takeFirst_12 ?_
    obtain ⟨r_4, hr_4, h⟩ := ob_some h
    refine g_ci Γ hI (g_runV (As := [.long (σ.2 3 7)]) Γ hI (S_X6_pointNamed l X σ (σ.2 3 7) r_4 hr_4) mf_X6_pointNamed (recv_X6 Γ hI) gw_79 rfl rfl ⟨Nat.le_of_ble_eq_true rfl, Nat.le_of_ble_eq_true rfl⟩ rfl hl.1 rfl (Nat.le_of_ble_eq_true rfl) dX6_takeFirst_15 ⟨Nat.zero_le _, Nat.zero_le _⟩) (fun H locs hI => ?_)
    clear hr_4
    refine put_X6_first Γ hI gw_84 dX6_takeFirst_18 (fun H locs hI => ?_)
    obtain ⟨σ_6, e_m_6, h⟩ := nm_some h
    rw [← e_m_6] at hI; clear e_m_6
    refine lv_aload_n Γ.1.1 Γ.1.2.1 dX6_takeFirst_21 rfl (lv_at hl 0 rfl) ?_
    refine get_X6_first Γ hI gw_84 dX6_takeFirst_22 ?_
    refine lv_iconst (v := (-1 : Int32)) Γ.1.1 Γ.1.2.1 dX6_takeFirst_25 (by decide) ?_
    refine lv_icmp_ne (tgt := 31) Γ.1.1 Γ.1.2.1 dX6_takeFirst_26 (by decide) (fun c_7 => ?_) (fun c_7 => ?_)
    · replace h := ite_neg c_7 h; clear c_7
      refine lv_aload_n Γ.1.1 Γ.1.2.1 dX6_takeFirst_31 rfl (lv_at hl 0 rfl) ?_
      refine get_X6_found Γ hI gw_72 dX6_takeFirst_32 ?_
      refine lv_aload_n Γ.1.1 Γ.1.2.1 dX6_takeFirst_35 rfl (lv_at hl 0 rfl) ?_
      refine get_X6_first Γ hI gw_84 dX6_takeFirst_36 ?_
      refine lv_aload_n Γ.1.1 Γ.1.2.1 dX6_takeFirst_39 rfl (lv_at hl 0 rfl) ?_
      refine get_X6_found Γ hI gw_72 dX6_takeFirst_40 ?_
      refine get_X3_there sh_4 Γ hI gw_85 dX6_takeFirst_43 ?_
      obtain ⟨r_8, hr_8, h⟩ := ob_some h
      refine g_ci Γ hI (g_runV (As := [.int (σ_6.1 3 5), .int (σ_6.1 4 3)]) Γ hI (S_X3_endsIn l X σ_6 4 sh_4 (σ_6.1 3 5) (σ_6.1 4 3) r_8 hr_8) mf_X3_endsIn (recv_X3 sh_4 Γ hI) gw_86 rfl rfl ⟨Nat.le_of_ble_eq_true rfl, Nat.le_of_ble_eq_true rfl⟩ rfl hl.1 rfl (Nat.le_of_ble_eq_true rfl) dX6_takeFirst_46 ⟨Nat.zero_le _, Nat.zero_le _⟩) (fun H locs hI => ?_)
      clear hr_8
      refine lv_bipush (v := (6 : Int32)) Γ.1.1 Γ.1.2.1 dX6_takeFirst_49 (by decide) ?_
      refine lv_icmp_lt (tgt := 56) Γ.1.1 Γ.1.2.1 dX6_takeFirst_51 (by decide) (fun c_10 => ?_) (fun c_10 => ?_)
      · replace h := ite_pos c_10 h; clear c_10
        refine lv_aload_n Γ.1.1 Γ.1.2.1 dX6_takeFirst_56 rfl (lv_at hl 0 rfl) ?_
        refine lv_iconst (v := (5 : Int32)) Γ.1.1 Γ.1.2.1 dX6_takeFirst_57 (by decide) ?_
        refine put_X6_expected Γ hI gw_74 dX6_takeFirst_58 (fun H locs hI => ?_)
        obtain ⟨σ_11, e_m_11, h⟩ := nm_some h
        rw [← e_m_11] at hI; clear e_m_11
        refine lv_iconst (v := (0 : Int32)) Γ.1.1 Γ.1.2.1 dX6_takeFirst_61 (by decide) ?_
        exact g_iret Γ hI dX6_takeFirst_62 (Prod.mk.inj (Option.some.inj h)).1 (Prod.mk.inj (Option.some.inj h)).2
      · replace h := ite_neg c_10 h; clear c_10
        refine lv_iconst (v := (5 : Int32)) Γ.1.1 Γ.1.2.1 dX6_takeFirst_54 (by decide) ?_
        exact g_iret Γ hI dX6_takeFirst_55 (Prod.mk.inj (Option.some.inj h)).1 (Prod.mk.inj (Option.some.inj h)).2
    · replace h := ite_pos c_7 h; clear c_7
      refine lv_iconst (v := (3 : Int32)) Γ.1.1 Γ.1.2.1 dX6_takeFirst_29 (by decide) ?_
      exact g_iret Γ hI dX6_takeFirst_30 (Prod.mk.inj (Option.some.inj h)).1 (Prod.mk.inj (Option.some.inj h)).2
  · replace h := ite_pos c_3 h; clear c_3
    refine lv_iconst (v := (1 : Int32)) Γ.1.1 Γ.1.2.1 dX6_takeFirst_7 (by decide) ?_
    exact g_iret Γ hI dX6_takeFirst_8 (Prod.mk.inj (Option.some.inj h)).1 (Prod.mk.inj (Option.some.inj h)).2
set_option maxRecDepth 20000 in
set_option maxHeartbeats 4000000 in
theorem S_X6_takeSecond (l : Launch) (X : GX) (σ : GM) (σr : GM) (x : Int32) (h : f_X6_takeSecond σ = some (σr, x)) : gMet l yX6_takeSecond cX6_takeSecond 2 (some .int) ({ frames := 3, cells := 0, slots := 0, locals := 70 } : Room) X σ [.ref (X.2.1 + 3)] (gQi X σr x) := by
  unfold f_X6_takeSecond at h
  refine gMet_of (lv := [(0, .ref (X.2.1 + 3))]) (by decide) rfl (Nat.le_of_ble_eq_true rfl) rfl (fun p e s m below meth c H ls Γ hI hl => ?_)
  refine lv_aload_n Γ.1.1 Γ.1.2.1 dX6_takeSecond_0 rfl (lv_at hl 0 rfl) ?_
  obtain ⟨r_1, hr_1, h⟩ := ob_some h
  refine g_ci Γ hI (g_runV (As := []) Γ hI (S_X6_isName l X σ r_1 hr_1) mf_X6_isName (recv_X6 Γ hI) gw_78 rfl rfl ⟨Nat.le_of_ble_eq_true rfl, Nat.le_of_ble_eq_true rfl⟩ rfl hl.1 rfl (Nat.le_of_ble_eq_true rfl) dX6_takeSecond_1 ⟨Nat.zero_le _, Nat.zero_le _⟩) (fun H locs hI => ?_)
  clear hr_1
  refine lv_if_ne (tgt := 9) Γ.1.1 Γ.1.2.1 dX6_takeSecond_4 (by decide) (fun c_3 => ?_) (fun c_3 => ?_)
  · replace h := ite_neg c_3 h; clear c_3
    refine lv_aload_n Γ.1.1 Γ.1.2.1 dX6_takeSecond_9 rfl (lv_at hl 0 rfl) ?_
    refine lv_aload_n Γ.1.1 Γ.1.2.1 dX6_takeSecond_10 rfl (lv_at hl 0 rfl) ?_
    refine get_X6_value Γ hI gw_65 dX6_takeSecond_11 ?_
    obtain ⟨r_4, hr_4, h⟩ := ob_some h
    refine g_ci Γ hI (g_runV (As := [.long (σ.2 3 7)]) Γ hI (S_X6_pointNamed l X σ (σ.2 3 7) r_4 hr_4) mf_X6_pointNamed (recv_X6 Γ hI) gw_79 rfl rfl ⟨Nat.le_of_ble_eq_true rfl, Nat.le_of_ble_eq_true rfl⟩ rfl hl.1 rfl (Nat.le_of_ble_eq_true rfl) dX6_takeSecond_14 ⟨Nat.zero_le _, Nat.zero_le _⟩) (fun H locs hI => ?_)
    clear hr_4
    refine lv_istore_n (lv' := [(1, .int r_4), (0, .ref (X.2.1 + 3))]) Γ.1.1 Γ.1.2.1 dX6_takeSecond_17 rfl hl (by decide) rfl (fun ls hl => ?_)
    refine lv_iload_n Γ.1.1 Γ.1.2.1 dX6_takeSecond_18 rfl (lv_at hl 0 rfl) ?_
    refine lv_iconst (v := (-1 : Int32)) Γ.1.1 Γ.1.2.1 dX6_takeSecond_19 (by decide) ?_
    refine lv_icmp_ne (tgt := 25) Γ.1.1 Γ.1.2.1 dX6_takeSecond_20 (by decide) (fun c_6 => ?_) (fun c_6 => ?_)
    · replace h := ite_neg c_6 h; clear c_6
      refine lv_aload_n Γ.1.1 Γ.1.2.1 dX6_takeSecond_25 rfl (lv_at hl 1 rfl) ?_
      refine get_X6_found Γ hI gw_72 dX6_takeSecond_26 ?_
      refine lv_aload_n Γ.1.1 Γ.1.2.1 dX6_takeSecond_29 rfl (lv_at hl 1 rfl) ?_
      refine get_X6_first Γ hI gw_84 dX6_takeSecond_30 ?_
      refine lv_iload_n Γ.1.1 Γ.1.2.1 dX6_takeSecond_33 rfl (lv_at hl 0 rfl) ?_
      obtain ⟨σ_8, r_7, hr_7, h⟩ := ob2_some h
      refine g_ci Γ hI (g_runV (As := [.int (σ.1 3 5), .int r_4]) Γ hI (S_X3_addLine l X σ 4 sh_4 (σ.1 3 5) r_4 σ_8 r_7 hr_7) mf_X3_addLine (recv_X3 sh_4 Γ hI) gw_87 rfl rfl ⟨Nat.le_of_ble_eq_true rfl, Nat.le_of_ble_eq_true rfl⟩ rfl hl.1 rfl (Nat.le_of_ble_eq_true rfl) dX6_takeSecond_34 ⟨Nat.zero_le _, Nat.zero_le _⟩) (fun H locs hI => ?_)
      clear hr_7
      refine lv_if_ne (tgt := 42) Γ.1.1 Γ.1.2.1 dX6_takeSecond_37 (by decide) (fun c_9 => ?_) (fun c_9 => ?_)
      · replace h := ite_neg c_9 h; clear c_9
        refine lv_aload_n Γ.1.1 Γ.1.2.1 dX6_takeSecond_42 rfl (lv_at hl 1 rfl) ?_
        refine lv_iconst (v := (3 : Int32)) Γ.1.1 Γ.1.2.1 dX6_takeSecond_43 (by decide) ?_
        refine put_X6_expected Γ hI gw_74 dX6_takeSecond_44 (fun H locs hI => ?_)
        obtain ⟨σ_10, e_m_10, h⟩ := nm_some h
        rw [← e_m_10] at hI; clear e_m_10
        refine lv_iconst (v := (0 : Int32)) Γ.1.1 Γ.1.2.1 dX6_takeSecond_47 (by decide) ?_
        exact g_iret Γ hI dX6_takeSecond_48 (Prod.mk.inj (Option.some.inj h)).1 (Prod.mk.inj (Option.some.inj h)).2
      · replace h := ite_pos c_9 h; clear c_9
        refine lv_iconst (v := (5 : Int32)) Γ.1.1 Γ.1.2.1 dX6_takeSecond_40 (by decide) ?_
        exact g_iret Γ hI dX6_takeSecond_41 (Prod.mk.inj (Option.some.inj h)).1 (Prod.mk.inj (Option.some.inj h)).2
    · replace h := ite_pos c_6 h; clear c_6
      refine lv_iconst (v := (3 : Int32)) Γ.1.1 Γ.1.2.1 dX6_takeSecond_23 (by decide) ?_
      exact g_iret Γ hI dX6_takeSecond_24 (Prod.mk.inj (Option.some.inj h)).1 (Prod.mk.inj (Option.some.inj h)).2
  · replace h := ite_pos c_3 h; clear c_3
    refine lv_iconst (v := (1 : Int32)) Γ.1.1 Γ.1.2.1 dX6_takeSecond_7 (by decide) ?_
    exact g_iret Γ hI dX6_takeSecond_8 (Prod.mk.inj (Option.some.inj h)).1 (Prod.mk.inj (Option.some.inj h)).2
set_option maxRecDepth 20000 in
set_option maxHeartbeats 4000000 in
theorem S_X6_takeToken (l : Launch) (X : GX) (σ : GM) (σr : GM) (x : Int32) (h : f_X6_takeToken σ = some (σr, x)) : gMet l yX6_takeToken cX6_takeToken 1 (some .int) ({ frames := 4, cells := 0, slots := 0, locals := 91 } : Room) X σ [.ref (X.2.1 + 3)] (gQi X σr x) := by
  unfold f_X6_takeToken at h
  refine gMet_of (lv := [(0, .ref (X.2.1 + 3))]) (by decide) rfl (Nat.le_of_ble_eq_true rfl) rfl (fun p e s m below meth c H ls Γ hI hl => ?_)
  refine lv_aload_n Γ.1.1 Γ.1.2.1 dX6_takeToken_0 rfl (lv_at hl 0 rfl) ?_
  refine get_X6_expected Γ hI gw_74 dX6_takeToken_1 ?_
  refine lv_topi (fun w_1 e_w_1 => ?_)
  replace h := nm_at e_w_1 h; clear e_w_1
  by_cases c_4_0 : w_1 = (0 : Int32)
  · replace h := ite_pos c_4_0 h
    refine lv_tableIn (off := 40) (tgt := 44) Γ.1.1 Γ.1.2.1 dX6_takeToken_4 (by rw [c_4_0]; decide) (by rw [c_4_0]; decide) (by rw [c_4_0]; decide) (by decide) ?_
    refine lv_aload_n Γ.1.1 Γ.1.2.1 dX6_takeToken_44 rfl (lv_at hl 0 rfl) ?_
    obtain ⟨σ_3, r_2, hr_2, h⟩ := ob2_some h
    refine g_ci Γ hI (g_runV (As := []) Γ hI (S_X6_beginRow l X σ σ_3 r_2 hr_2) mf_X6_beginRow (recv_X6 Γ hI) gw_88 rfl rfl ⟨Nat.le_of_ble_eq_true rfl, Nat.le_of_ble_eq_true rfl⟩ rfl hl.1 rfl (Nat.le_of_ble_eq_true rfl) dX6_takeToken_45 ⟨Nat.zero_le _, Nat.zero_le _⟩) (fun H locs hI => ?_)
    clear hr_2
    exact g_iret Γ hI dX6_takeToken_48 (Prod.mk.inj (Option.some.inj h)).1 (Prod.mk.inj (Option.some.inj h)).2
  · replace h := ite_neg c_4_0 h
    by_cases c_4_1 : w_1 = (1 : Int32)
    · replace h := ite_pos c_4_1 h
      refine lv_tableIn (off := 45) (tgt := 49) Γ.1.1 Γ.1.2.1 dX6_takeToken_4 (by rw [c_4_1]; decide) (by rw [c_4_1]; decide) (by rw [c_4_1]; decide) (by decide) ?_
      refine lv_aload_n Γ.1.1 Γ.1.2.1 dX6_takeToken_49 rfl (lv_at hl 0 rfl) ?_
      obtain ⟨σ_5, r_4, hr_4, h⟩ := ob2_some h
      refine g_ci Γ hI (g_runV (As := []) Γ hI (S_X6_takeName l X σ σ_5 r_4 hr_4) mf_X6_takeName (recv_X6 Γ hI) gw_89 rfl rfl ⟨Nat.le_of_ble_eq_true rfl, Nat.le_of_ble_eq_true rfl⟩ rfl hl.1 rfl (Nat.le_of_ble_eq_true rfl) dX6_takeToken_50 ⟨Nat.zero_le _, Nat.zero_le _⟩) (fun H locs hI => ?_)
      clear hr_4
      exact g_iret Γ hI dX6_takeToken_53 (Prod.mk.inj (Option.some.inj h)).1 (Prod.mk.inj (Option.some.inj h)).2
    · replace h := ite_neg c_4_1 h
      by_cases c_4_2 : w_1 = (2 : Int32)
      · replace h := ite_pos c_4_2 h
        refine lv_tableIn (off := 50) (tgt := 54) Γ.1.1 Γ.1.2.1 dX6_takeToken_4 (by rw [c_4_2]; decide) (by rw [c_4_2]; decide) (by rw [c_4_2]; decide) (by decide) ?_
        refine lv_aload_n Γ.1.1 Γ.1.2.1 dX6_takeToken_54 rfl (lv_at hl 0 rfl) ?_
        refine get_X6_kind Γ hI gw_64 dX6_takeToken_55 ?_
        refine lv_iconst (v := (2 : Int32)) Γ.1.1 Γ.1.2.1 dX6_takeToken_58 (by decide) ?_
        refine lv_icmp_ne (tgt := 69) Γ.1.1 Γ.1.2.1 dX6_takeToken_59 (by decide) (fun c_6 => ?_) (fun c_6 => ?_)
        · replace h := ite_neg c_6 h; clear c_6
          refine lv_aload_n Γ.1.1 Γ.1.2.1 dX6_takeToken_69 rfl (lv_at hl 0 rfl) ?_
          obtain ⟨σ_8, r_7, hr_7, h⟩ := ob2_some h
          refine g_ci Γ hI (g_runV (As := []) Γ hI (S_X6_takeSign l X σ σ_8 r_7 hr_7) mf_X6_takeSign (recv_X6 Γ hI) gw_90 rfl rfl ⟨Nat.le_of_ble_eq_true rfl, Nat.le_of_ble_eq_true rfl⟩ rfl hl.1 rfl (Nat.le_of_ble_eq_true rfl) dX6_takeToken_70 ⟨Nat.zero_le _, Nat.zero_le _⟩) (fun H locs hI => ?_)
          clear hr_7
          exact g_iret Γ hI dX6_takeToken_73 (Prod.mk.inj (Option.some.inj h)).1 (Prod.mk.inj (Option.some.inj h)).2
        · replace h := ite_pos c_6 h; clear c_6
          refine lv_aload_n Γ.1.1 Γ.1.2.1 dX6_takeToken_62 rfl (lv_at hl 0 rfl) ?_
          obtain ⟨σ_10, r_9, hr_9, h⟩ := ob2_some h
          refine g_ci Γ hI (g_runV (As := []) Γ hI (S_X6_takeWeight l X σ σ_10 r_9 hr_9) mf_X6_takeWeight (recv_X6 Γ hI) gw_91 rfl rfl ⟨Nat.le_of_ble_eq_true rfl, Nat.le_of_ble_eq_true rfl⟩ rfl hl.1 rfl (Nat.le_of_ble_eq_true rfl) dX6_takeToken_63 ⟨Nat.zero_le _, Nat.zero_le _⟩) (fun H locs hI => ?_)
          clear hr_9
          refine lv_goto (tgt := 73) Γ.1.1 Γ.1.2.1 dX6_takeToken_66 (by decide) ?_
          exact g_iret Γ hI dX6_takeToken_73 (Prod.mk.inj (Option.some.inj h)).1 (Prod.mk.inj (Option.some.inj h)).2
      · replace h := ite_neg c_4_2 h
        by_cases c_4_3 : w_1 = (3 : Int32)
        · replace h := ite_pos c_4_3 h
          refine lv_tableIn (off := 80) (tgt := 84) Γ.1.1 Γ.1.2.1 dX6_takeToken_4 (by rw [c_4_3]; decide) (by rw [c_4_3]; decide) (by rw [c_4_3]; decide) (by decide) ?_
          refine lv_aload_n Γ.1.1 Γ.1.2.1 dX6_takeToken_84 rfl (lv_at hl 0 rfl) ?_
          obtain ⟨σ_12, r_11, hr_11, h⟩ := ob2_some h
          refine g_ci Γ hI (g_runV (As := []) Γ hI (S_X6_takeSign l X σ σ_12 r_11 hr_11) mf_X6_takeSign (recv_X6 Γ hI) gw_90 rfl rfl ⟨Nat.le_of_ble_eq_true rfl, Nat.le_of_ble_eq_true rfl⟩ rfl hl.1 rfl (Nat.le_of_ble_eq_true rfl) dX6_takeToken_85 ⟨Nat.zero_le _, Nat.zero_le _⟩) (fun H locs hI => ?_)
          clear hr_11
          exact g_iret Γ hI dX6_takeToken_88 (Prod.mk.inj (Option.some.inj h)).1 (Prod.mk.inj (Option.some.inj h)).2
        · replace h := ite_neg c_4_3 h
          by_cases c_4_4 : w_1 = (4 : Int32)
          · replace h := ite_pos c_4_4 h
            refine lv_tableIn (off := 70) (tgt := 74) Γ.1.1 Γ.1.2.1 dX6_takeToken_4 (by rw [c_4_4]; decide) (by rw [c_4_4]; decide) (by rw [c_4_4]; decide) (by decide) ?_
            refine lv_aload_n Γ.1.1 Γ.1.2.1 dX6_takeToken_74 rfl (lv_at hl 0 rfl) ?_
            obtain ⟨σ_14, r_13, hr_13, h⟩ := ob2_some h
            refine g_ci Γ hI (g_runV (As := []) Γ hI (S_X6_takeFirst l X σ σ_14 r_13 hr_13) mf_X6_takeFirst (recv_X6 Γ hI) gw_92 rfl rfl ⟨Nat.le_of_ble_eq_true rfl, Nat.le_of_ble_eq_true rfl⟩ rfl hl.1 rfl (Nat.le_of_ble_eq_true rfl) dX6_takeToken_75 ⟨Nat.zero_le _, Nat.zero_le _⟩) (fun H locs hI => ?_)
            clear hr_13
            exact g_iret Γ hI dX6_takeToken_78 (Prod.mk.inj (Option.some.inj h)).1 (Prod.mk.inj (Option.some.inj h)).2
          · replace h := ite_neg c_4_4 h
            by_cases c_4_5 : w_1 = (5 : Int32)
            · replace h := ite_pos c_4_5 h
              refine lv_tableIn (off := 75) (tgt := 79) Γ.1.1 Γ.1.2.1 dX6_takeToken_4 (by rw [c_4_5]; decide) (by rw [c_4_5]; decide) (by rw [c_4_5]; decide) (by decide) ?_
              refine lv_aload_n Γ.1.1 Γ.1.2.1 dX6_takeToken_79 rfl (lv_at hl 0 rfl) ?_
              obtain ⟨σ_16, r_15, hr_15, h⟩ := ob2_some h
              refine g_ci Γ hI (g_runV (As := []) Γ hI (S_X6_takeSecond l X σ σ_16 r_15 hr_15) mf_X6_takeSecond (recv_X6 Γ hI) gw_93 rfl rfl ⟨Nat.le_of_ble_eq_true rfl, Nat.le_of_ble_eq_true rfl⟩ rfl hl.1 rfl (Nat.le_of_ble_eq_true rfl) dX6_takeToken_80 ⟨Nat.zero_le _, Nat.zero_le _⟩) (fun H locs hI => ?_)
              clear hr_15
              exact g_iret Γ hI dX6_takeToken_83 (Prod.mk.inj (Option.some.inj h)).1 (Prod.mk.inj (Option.some.inj h)).2
            · replace h := ite_neg c_4_5 h
              have hq0 : ¬ w_1.toInt = 0 := lv_neT c_4_0 (by decide)
              have hq1 : ¬ w_1.toInt = 1 := lv_neT c_4_1 (by decide)
              have hq2 : ¬ w_1.toInt = 2 := lv_neT c_4_2 (by decide)
              have hq3 : ¬ w_1.toInt = 3 := lv_neT c_4_3 (by decide)
              have hq4 : ¬ w_1.toInt = 4 := lv_neT c_4_4 (by decide)
              have hq5 : ¬ w_1.toInt = 5 := lv_neT c_4_5 (by decide)
              refine lv_tableOut (tgt := 84) Γ.1.1 Γ.1.2.1 dX6_takeToken_4 (by omega) (by decide) ?_
              clear hq0 hq1 hq2 hq3 hq4 hq5
              refine lv_aload_n Γ.1.1 Γ.1.2.1 dX6_takeToken_84 rfl (lv_at hl 0 rfl) ?_
              obtain ⟨σ_18, r_17, hr_17, h⟩ := ob2_some h
              refine g_ci Γ hI (g_runV (As := []) Γ hI (S_X6_takeSign l X σ σ_18 r_17 hr_17) mf_X6_takeSign (recv_X6 Γ hI) gw_90 rfl rfl ⟨Nat.le_of_ble_eq_true rfl, Nat.le_of_ble_eq_true rfl⟩ rfl hl.1 rfl (Nat.le_of_ble_eq_true rfl) dX6_takeToken_85 ⟨Nat.zero_le _, Nat.zero_le _⟩) (fun H locs hI => ?_)
              clear hr_17
              exact g_iret Γ hI dX6_takeToken_88 (Prod.mk.inj (Option.some.inj h)).1 (Prod.mk.inj (Option.some.inj h)).2
set_option maxRecDepth 20000 in
set_option maxHeartbeats 4000000 in
theorem s_X6_readAll_L122 {p : Program} {l : Launch} {e : Env} {s : State} {m : MethodId} {args : Array Value} {below : List Frame} {meth : Method} {c : Code} {X : GX} (σr : GM) (x : Int32) (Γ : gC X p m meth c cX6_readAll 6 s args RX6 (some .int)) :
    ∀ (σ : GM) (v2 : Int32) (H : Heap) (locs : List Loc) (ls : Array Slot), gI X σ s H locs → lv_has ls 6 [(0, .ref (X.2.1 + 3)), (1, .ref (X.2.1 + 1)), (2, .int v2)] → f_X6_readAll_L122 σ v2 = some (σr, x) →
    W p l e ({ frames := 5, cells := 0, slots := 0, locals := 111 } : Room) s m args below meth c H locs 0 0 (MQ below (gQi X σr x) args s 0 0 (gA X)) (F0 m 122 ls []) := by
  intro σ v2 H locs ls hI hl h
  unfold f_X6_readAll_L122 at h
  refine lv_aload_n Γ.1.1 Γ.1.2.1 dX6_readAll_122 rfl (lv_at hl 0 rfl) ?_
  refine lv_iload_n Γ.1.1 Γ.1.2.1 dX6_readAll_123 rfl (lv_at hl 2 rfl) ?_
  refine put_X6_place Γ hI gw_62 dX6_readAll_124 (fun H locs hI => ?_)
  obtain ⟨σ_9, e_m_9, h⟩ := nm_some h
  rw [← e_m_9] at hI; clear e_m_9
  refine lv_aload_n Γ.1.1 Γ.1.2.1 dX6_readAll_127 rfl (lv_at hl 1 rfl) ?_
  refine get_X10_length Γ hI gw_95 dX6_readAll_128 ?_
  refine lv_sipush (v := (600 : Int32)) Γ.1.1 Γ.1.2.1 dX6_readAll_131 (by decide) ?_
  refine lv_icmp_gt (tgt := 144) Γ.1.1 Γ.1.2.1 dX6_readAll_134 (by decide) (fun c_10 => ?_) (fun c_10 => ?_)
  · replace h := ite_pos c_10 h; clear c_10
    refine lv_iconst (v := (1 : Int32)) Γ.1.1 Γ.1.2.1 dX6_readAll_144 (by decide) ?_
    refine lv_goto (tgt := 149) Γ.1.1 Γ.1.2.1 dX6_readAll_145 (by decide) ?_
    exact g_iret Γ hI dX6_readAll_149 (Prod.mk.inj (Option.some.inj h)).1 (Prod.mk.inj (Option.some.inj h)).2
  · replace h := ite_neg c_10 h; clear c_10
    refine lv_aload_n Γ.1.1 Γ.1.2.1 dX6_readAll_137 rfl (lv_at hl 0 rfl) ?_
    refine get_X6_expected Γ hI gw_74 dX6_readAll_138 ?_
    refine lv_if_eq (tgt := 148) Γ.1.1 Γ.1.2.1 dX6_readAll_141 (by decide) (fun c_11 => ?_) (fun c_11 => ?_)
    · replace h := ite_pos c_11 h; clear c_11
      refine lv_iconst (v := (0 : Int32)) Γ.1.1 Γ.1.2.1 dX6_readAll_148 (by decide) ?_
      exact g_iret Γ hI dX6_readAll_149 (Prod.mk.inj (Option.some.inj h)).1 (Prod.mk.inj (Option.some.inj h)).2
    · replace h := ite_neg c_11 h; clear c_11
      refine lv_iconst (v := (1 : Int32)) Γ.1.1 Γ.1.2.1 dX6_readAll_144 (by decide) ?_
      refine lv_goto (tgt := 149) Γ.1.1 Γ.1.2.1 dX6_readAll_145 (by decide) ?_
      exact g_iret Γ hI dX6_readAll_149 (Prod.mk.inj (Option.some.inj h)).1 (Prod.mk.inj (Option.some.inj h)).2
set_option maxRecDepth 20000 in
set_option maxHeartbeats 4000000 in
theorem s_X6_readAll_L108 {p : Program} {l : Launch} {e : Env} {s : State} {m : MethodId} {args : Array Value} {below : List Frame} {meth : Method} {c : Code} {X : GX} (σr : GM) (x : Int32) (Γ : gC X p m meth c cX6_readAll 6 s args RX6 (some .int)) (v2 : Int32) (k40 : GM → Int32 → Option (GM × Int32)) (hk40 : ∀ (σ : GM) (v3 : Int32) (H : Heap) (locs : List Loc) (ls : Array Slot), gI X σ s H locs → lv_has ls 6 [(0, .ref (X.2.1 + 3)), (1, .ref (X.2.1 + 1)), (2, .int v2), (3, .int v3)] → k40 σ v3 = some (σr, x) → W p l e ({ frames := 5, cells := 0, slots := 0, locals := 111 } : Room) s m args below meth c H locs 0 0 (MQ below (gQi X σr x) args s 0 0 (gA X)) (F0 m 40 ls [])) :
    ∀ (σ : GM) (v3 : Int32) (H : Heap) (locs : List Loc) (ls : Array Slot), gI X σ s H locs → lv_has ls 6 [(0, .ref (X.2.1 + 3)), (1, .ref (X.2.1 + 1)), (2, .int v2), (3, .int v3)] → f_X6_readAll_L108 k40 v2 σ v3 = some (σr, x) →
    W p l e ({ frames := 5, cells := 0, slots := 0, locals := 111 } : Room) s m args below meth c H locs 0 0 (MQ below (gQi X σr x) args s 0 0 (gA X)) (F0 m 108 ls []) := by
  intro σ v3 H locs ls hI hl h
  unfold f_X6_readAll_L108 at h
  refine lv_aload_n Γ.1.1 Γ.1.2.1 dX6_readAll_108 rfl (lv_at hl 0 rfl) ?_
  refine lv_aload_n Γ.1.1 Γ.1.2.1 dX6_readAll_109 rfl (lv_at hl 0 rfl) ?_
  refine get_X6_next Γ hI gw_67 dX6_readAll_110 ?_
  refine put_X6_place Γ hI gw_62 dX6_readAll_113 (fun H locs hI => ?_)
  obtain ⟨σ_17, e_m_17, h⟩ := nm_some h
  rw [← e_m_17] at hI; clear e_m_17
  obtain ⟨v3_18, e_v3_18, h⟩ := nm_some h
  refine lv_iinc (v := v3_18) (lv' := [(3, .int v3_18), (0, .ref (X.2.1 + 3)), (1, .ref (X.2.1 + 1)), (2, .int v2)]) Γ.1.1 Γ.1.2.1 dX6_readAll_116 hl (k := 3) rfl (by rw [e_v3_18]; rfl) (by decide) rfl (fun ls hl => ?_)
  clear e_v3_18
  refine lv_goto (tgt := 40) Γ.1.1 Γ.1.2.1 dX6_readAll_119 (by decide) ?_
  exact hk40 σ_17 v3_18 _ _ _ hI (lv_sub hl [1, 2, 3, 0] rfl) h
set_option maxRecDepth 20000 in
set_option maxHeartbeats 4000000 in
theorem s_X6_readAll_L40 {p : Program} {l : Launch} {e : Env} {s : State} {m : MethodId} {args : Array Value} {below : List Frame} {meth : Method} {c : Code} {X : GX} (σr : GM) (x : Int32) (Γ : gC X p m meth c cX6_readAll 6 s args RX6 (some .int)) (v2 : Int32) :
    ∀ (k : Nat) (σ : GM) (v3 : Int32) (H : Heap) (locs : List Loc) (ls : Array Slot), gI X σ s H locs → lv_has ls 6 [(0, .ref (X.2.1 + 3)), (1, .ref (X.2.1 + 1)), (2, .int v2), (3, .int v3)] → f_X6_readAll_L40 v2 k σ v3 = some (σr, x) →
    W p l e ({ frames := 5, cells := 0, slots := 0, locals := 111 } : Room) s m args below meth c H locs 0 0 (MQ below (gQi X σr x) args s 0 0 (gA X)) (F0 m 40 ls []) := by
  intro k
  induction k with
  | zero =>
    intro σ v3 H locs ls hI hl h
    exact absurd h (by simp [f_X6_readAll_L40])
  | succ k ih =>
    intro σ v3 H locs ls hI hl h
    unfold f_X6_readAll_L40 at h
    refine lv_iload_n Γ.1.1 Γ.1.2.1 dX6_readAll_40 rfl (lv_at hl 3 rfl) ?_
    refine lv_sipush (v := (640 : Int32)) Γ.1.1 Γ.1.2.1 dX6_readAll_41 (by decide) ?_
    refine lv_icmp_ge (tgt := 122) Γ.1.1 Γ.1.2.1 dX6_readAll_44 (by decide) (fun c_8 => ?_) (fun c_8 => ?_)
    · replace h := ite_pos c_8 h; clear c_8
      exact s_X6_readAll_L122 σr x Γ σ v2 _ _ _ hI (lv_sub hl [0, 1, 2] rfl) h
    · replace h := ite_neg c_8 h; clear c_8
      refine lv_aload_n Γ.1.1 Γ.1.2.1 dX6_readAll_47 rfl (lv_at hl 0 rfl) ?_
      refine get_X6_place Γ hI gw_62 dX6_readAll_48 ?_
      refine lv_iload_n Γ.1.1 Γ.1.2.1 dX6_readAll_51 rfl (lv_at hl 2 rfl) ?_
      refine lv_icmp_ge (tgt := 122) Γ.1.1 Γ.1.2.1 dX6_readAll_52 (by decide) (fun c_12 => ?_) (fun c_12 => ?_)
      · replace h := ite_pos c_12 h; clear c_12
        exact s_X6_readAll_L122 σr x Γ σ v2 _ _ _ hI (lv_sub hl [0, 1, 2] rfl) h
      · replace h := ite_neg c_12 h; clear c_12
        refine lv_aload_n Γ.1.1 Γ.1.2.1 dX6_readAll_55 rfl (lv_at hl 1 rfl) ?_
        refine lv_aload_n Γ.1.1 Γ.1.2.1 dX6_readAll_56 rfl (lv_at hl 0 rfl) ?_
        refine get_X6_place Γ hI gw_62 dX6_readAll_57 ?_
        obtain ⟨r_13, hr_13, h⟩ := ob_some h
        refine g_ci Γ hI (g_runV (As := [.int (σ.1 3 3)]) Γ hI (S_X10_byteAt l X σ (σ.1 3 3) r_13 hr_13) mf_X10_byteAt (recv_X10 Γ hI) gw_63 rfl rfl ⟨Nat.le_of_ble_eq_true rfl, Nat.le_of_ble_eq_true rfl⟩ rfl hl.1 rfl (Nat.le_of_ble_eq_true rfl) dX6_readAll_60 ⟨Nat.zero_le _, Nat.zero_le _⟩) (fun H locs hI => ?_)
        clear hr_13
        refine lv_istore (lv' := [(4, .int r_13), (0, .ref (X.2.1 + 3)), (1, .ref (X.2.1 + 1)), (2, .int v2), (3, .int v3)]) Γ.1.1 Γ.1.2.1 dX6_readAll_63 hl (by decide) rfl (fun ls hl => ?_)
        refine lv_aload_n Γ.1.1 Γ.1.2.1 dX6_readAll_65 rfl (lv_at hl 1 rfl) ?_
        refine lv_aload_n Γ.1.1 Γ.1.2.1 dX6_readAll_66 rfl (lv_at hl 1 rfl) ?_
        refine get_X6_place Γ hI gw_62 dX6_readAll_67 ?_
        refine lv_iconst (v := (1 : Int32)) Γ.1.1 Γ.1.2.1 dX6_readAll_70 (by decide) ?_
        refine lv_iadd Γ.1.1 Γ.1.2.1 dX6_readAll_71 ?_
        refine put_X6_next Γ hI gw_67 dX6_readAll_72 (fun H locs hI => ?_)
        obtain ⟨σ_15, e_m_15, h⟩ := nm_some h
        rw [← e_m_15] at hI; clear e_m_15
        refine lv_iload Γ.1.1 Γ.1.2.1 dX6_readAll_75 (lv_at hl 0 rfl) ?_
        refine lv_bipush (v := (32 : Int32)) Γ.1.1 Γ.1.2.1 dX6_readAll_77 (by decide) ?_
        refine lv_icmp_eq (tgt := 108) Γ.1.1 Γ.1.2.1 dX6_readAll_79 (by decide) (fun c_16 => ?_) (fun c_16 => ?_)
        · replace h := ite_pos c_16 h; clear c_16
          exact s_X6_readAll_L108 σr x Γ v2 _ ih σ_15 v3 _ _ _ hI (lv_sub hl [1, 2, 3, 4] rfl) h
        · replace h := ite_neg c_16 h; clear c_16
          refine lv_iload Γ.1.1 Γ.1.2.1 dX6_readAll_82 (lv_at hl 0 rfl) ?_
          refine lv_bipush (v := (10 : Int32)) Γ.1.1 Γ.1.2.1 dX6_readAll_84 (by decide) ?_
          refine lv_icmp_eq (tgt := 108) Γ.1.1 Γ.1.2.1 dX6_readAll_86 (by decide) (fun c_19 => ?_) (fun c_19 => ?_)
          · replace h := ite_pos c_19 h; clear c_19
            exact s_X6_readAll_L108 σr x Γ v2 _ ih σ_15 v3 _ _ _ hI (lv_sub hl [1, 2, 3, 4] rfl) h
          · replace h := ite_neg c_19 h; clear c_19
            refine lv_aload_n Γ.1.1 Γ.1.2.1 dX6_readAll_89 rfl (lv_at hl 1 rfl) ?_
            refine lv_aload_n Γ.1.1 Γ.1.2.1 dX6_readAll_90 rfl (lv_at hl 2 rfl) ?_
            obtain ⟨σ_21, hr_20, h⟩ := ob_some h
            refine g_cv Γ hI (g_runV (As := [.ref (X.2.1 + 1)]) Γ hI (S_X6_readToken l X σ_15 σ_21 hr_20) mf_X6_readToken (recv_X6 Γ hI) gw_97 rfl rfl ⟨Nat.le_of_ble_eq_true rfl, Nat.le_of_ble_eq_true rfl⟩ rfl hl.1 rfl (Nat.le_of_ble_eq_true rfl) dX6_readAll_91 ⟨Nat.zero_le _, Nat.zero_le _⟩) (fun H locs hI => ?_)
            clear hr_20
            refine lv_aload_n Γ.1.1 Γ.1.2.1 dX6_readAll_94 rfl (lv_at hl 1 rfl) ?_
            obtain ⟨σ_23, r_22, hr_22, h⟩ := ob2_some h
            refine g_ci Γ hI (g_runV (As := []) Γ hI (S_X6_takeToken l X σ_21 σ_23 r_22 hr_22) mf_X6_takeToken (recv_X6 Γ hI) gw_98 rfl rfl ⟨Nat.le_of_ble_eq_true rfl, Nat.le_of_ble_eq_true rfl⟩ rfl hl.1 rfl (Nat.le_of_ble_eq_true rfl) dX6_readAll_95 ⟨Nat.zero_le _, Nat.zero_le _⟩) (fun H locs hI => ?_)
            clear hr_22
            refine lv_istore (lv' := [(5, .int r_22), (4, .int r_13), (0, .ref (X.2.1 + 3)), (1, .ref (X.2.1 + 1)), (2, .int v2), (3, .int v3)]) Γ.1.1 Γ.1.2.1 dX6_readAll_98 hl (by decide) rfl (fun ls hl => ?_)
            refine lv_iload Γ.1.1 Γ.1.2.1 dX6_readAll_100 (lv_at hl 0 rfl) ?_
            refine lv_if_eq (tgt := 108) Γ.1.1 Γ.1.2.1 dX6_readAll_102 (by decide) (fun c_24 => ?_) (fun c_24 => ?_)
            · replace h := ite_pos c_24 h; clear c_24
              exact s_X6_readAll_L108 σr x Γ v2 _ ih σ_23 v3 _ _ _ hI (lv_sub hl [2, 3, 4, 5] rfl) h
            · replace h := ite_neg c_24 h; clear c_24
              refine lv_iload Γ.1.1 Γ.1.2.1 dX6_readAll_105 (lv_at hl 0 rfl) ?_
              exact g_iret Γ hI dX6_readAll_107 (Prod.mk.inj (Option.some.inj h)).1 (Prod.mk.inj (Option.some.inj h)).2
set_option maxRecDepth 20000 in
set_option maxHeartbeats 4000000 in
theorem S_X6_readAll (l : Launch) (X : GX) (σ : GM) (σr : GM) (x : Int32) (h : f_X6_readAll σ = some (σr, x)) : gMet l yX6_readAll cX6_readAll 6 (some .int) ({ frames := 5, cells := 0, slots := 0, locals := 111 } : Room) X σ [.ref (X.2.1 + 3), .ref (X.2.1 + 1)] (gQi X σr x) := by
  unfold f_X6_readAll at h
  refine gMet_of (lv := [(0, .ref (X.2.1 + 3)), (1, .ref (X.2.1 + 1))]) (by decide) rfl (Nat.le_of_ble_eq_true rfl) rfl (fun p e s m below meth c H ls Γ hI hl => ?_)
  refine lv_aload_n Γ.1.1 Γ.1.2.1 dX6_readAll_0 rfl (lv_at hl 0 rfl) ?_
  refine get_X6_found Γ hI gw_72 dX6_readAll_1 ?_
  obtain ⟨σ_2, hr_1, h⟩ := ob_some h
  refine g_cv Γ hI (g_runV (As := []) Γ hI (S_X3_empty l X σ 4 sh_4 σ_2 hr_1) mf_X3_empty (recv_X3 sh_4 Γ hI) gw_94 rfl rfl ⟨Nat.le_of_ble_eq_true rfl, Nat.le_of_ble_eq_true rfl⟩ rfl hl.1 rfl (Nat.le_of_ble_eq_true rfl) dX6_readAll_4 ⟨Nat.zero_le _, Nat.zero_le _⟩) (fun H locs hI => ?_)
  clear hr_1
  refine lv_aload_n Γ.1.1 Γ.1.2.1 dX6_readAll_7 rfl (lv_at hl 0 rfl) ?_
  refine lv_iconst (v := (0 : Int32)) Γ.1.1 Γ.1.2.1 dX6_readAll_8 (by decide) ?_
  refine put_X6_rows Γ hI gw_83 dX6_readAll_9 (fun H locs hI => ?_)
  obtain ⟨σ_3, e_m_3, h⟩ := nm_some h
  rw [← e_m_3] at hI; clear e_m_3
  refine lv_aload_n Γ.1.1 Γ.1.2.1 dX6_readAll_12 rfl (lv_at hl 0 rfl) ?_
  refine lv_iconst (v := (0 : Int32)) Γ.1.1 Γ.1.2.1 dX6_readAll_13 (by decide) ?_
  refine put_X6_expected Γ hI gw_74 dX6_readAll_14 (fun H locs hI => ?_)
  obtain ⟨σ_4, e_m_4, h⟩ := nm_some h
  rw [← e_m_4] at hI; clear e_m_4
  refine lv_aload_n Γ.1.1 Γ.1.2.1 dX6_readAll_17 rfl (lv_at hl 0 rfl) ?_
  refine lv_iconst (v := (-1 : Int32)) Γ.1.1 Γ.1.2.1 dX6_readAll_18 (by decide) ?_
  refine put_X6_first Γ hI gw_84 dX6_readAll_19 (fun H locs hI => ?_)
  obtain ⟨σ_5, e_m_5, h⟩ := nm_some h
  rw [← e_m_5] at hI; clear e_m_5
  refine lv_aload_n Γ.1.1 Γ.1.2.1 dX6_readAll_22 rfl (lv_at hl 1 rfl) ?_
  refine get_X10_length Γ hI gw_95 dX6_readAll_23 ?_
  refine lv_sipush (v := (600 : Int32)) Γ.1.1 Γ.1.2.1 dX6_readAll_26 (by decide) ?_
  refine va_mmin Γ.1.1 Γ.1.2.1 (Γ.1.2.2.1.trans hl.1.symm) Γ.1.2.2.2.1 (Γ.1.2.2.2.2 _ gw_96) (Γ.1.2.2.2.2 _ gw_43) (Γ.1.2.2.2.2 _ gw_35) (Γ.1.2.2.2.2 _ gw_44) (Nat.le_of_ble_eq_true rfl) (Nat.le_of_ble_eq_true rfl) (Nat.zero_le _) (Nat.zero_le _) dX6_readAll_29 ?_
  refine lv_topi (fun v2_6 e_v2_6 => ?_)
  replace h := nm_at e_v2_6 h; clear e_v2_6
  refine lv_istore_n (lv' := [(2, .int v2_6), (0, .ref (X.2.1 + 3)), (1, .ref (X.2.1 + 1))]) Γ.1.1 Γ.1.2.1 dX6_readAll_32 rfl hl (by decide) rfl (fun ls hl => ?_)
  refine lv_aload_n Γ.1.1 Γ.1.2.1 dX6_readAll_33 rfl (lv_at hl 1 rfl) ?_
  refine lv_iconst (v := (0 : Int32)) Γ.1.1 Γ.1.2.1 dX6_readAll_34 (by decide) ?_
  refine put_X6_place Γ hI gw_62 dX6_readAll_35 (fun H locs hI => ?_)
  obtain ⟨σ_7, e_m_7, h⟩ := nm_some h
  rw [← e_m_7] at hI; clear e_m_7
  refine lv_iconst (v := (0 : Int32)) Γ.1.1 Γ.1.2.1 dX6_readAll_38 (by decide) ?_
  refine lv_istore_n (lv' := [(3, .int (0 : Int32)), (2, .int v2_6), (0, .ref (X.2.1 + 3)), (1, .ref (X.2.1 + 1))]) Γ.1.1 Γ.1.2.1 dX6_readAll_39 rfl hl (by decide) rfl (fun ls hl => ?_)
  exact s_X6_readAll_L40 σr x Γ v2_6 _ σ_7 (0 : Int32) _ _ _ hI (lv_sub hl [2, 3, 1, 0] rfl) h
set_option maxRecDepth 20000 in
set_option maxHeartbeats 4000000 in
theorem S_X5_forget (l : Launch) (X : GX) (σ : GM) (σr : GM) (h : f_X5_forget σ = some σr) : gMet l yX5_forget cX5_forget 1 none ({ frames := 0, cells := 0, slots := 0, locals := 0 } : Room) X σ [.ref (X.2.1 + 11)] (gQv X σr) := by
  unfold f_X5_forget at h
  refine gMet_of (lv := [(0, .ref (X.2.1 + 11))]) (by decide) rfl (Nat.le_of_ble_eq_true rfl) rfl (fun p e s m below meth c H ls Γ hI hl => ?_)
  refine lv_aload_n Γ.1.1 Γ.1.2.1 dX5_forget_0 rfl (lv_at hl 0 rfl) ?_
  refine lv_iconst (v := (0 : Int32)) Γ.1.1 Γ.1.2.1 dX5_forget_1 (by decide) ?_
  refine put_X5_count Γ hI gw_99 dX5_forget_2 (fun H locs hI => ?_)
  obtain ⟨σ_1, e_m_1, h⟩ := nm_some h
  rw [← e_m_1] at hI; clear e_m_1
  exact g_vret Γ hI dX5_forget_5 (Option.some.inj h)
set_option maxRecDepth 20000 in
set_option maxHeartbeats 4000000 in
theorem S_X11_markChanged (l : Launch) (X : GX) (σ : GM) (σr : GM) (h : f_X11_markChanged σ = some σr) : gMet l yX11_markChanged cX11_markChanged 1 none ({ frames := 0, cells := 0, slots := 0, locals := 0 } : Room) X σ [.ref (X.2.1 + 0)] (gQv X σr) := by
  unfold f_X11_markChanged at h
  refine gMet_of (lv := [(0, .ref (X.2.1 + 0))]) (by decide) rfl (Nat.le_of_ble_eq_true rfl) rfl (fun p e s m below meth c H ls Γ hI hl => ?_)
  refine lv_aload_n Γ.1.1 Γ.1.2.1 dX11_markChanged_0 rfl (lv_at hl 0 rfl) ?_
  refine lv_iconst (v := (1 : Int32)) Γ.1.1 Γ.1.2.1 dX11_markChanged_1 (by decide) ?_
  refine put_X11_ringsStale Γ hI (by decide) (by decide) gw_100 dX11_markChanged_2 (fun H locs hI => ?_)
  obtain ⟨σ_1, e_m_1, h⟩ := nm_some h
  rw [← e_m_1] at hI; clear e_m_1
  refine lv_aload_n Γ.1.1 Γ.1.2.1 dX11_markChanged_5 rfl (lv_at hl 0 rfl) ?_
  refine lv_iconst (v := (1 : Int32)) Γ.1.1 Γ.1.2.1 dX11_markChanged_6 (by decide) ?_
  refine put_X11_packingStale Γ hI (by decide) (by decide) gw_101 dX11_markChanged_7 (fun H locs hI => ?_)
  obtain ⟨σ_2, e_m_2, h⟩ := nm_some h
  rw [← e_m_2] at hI; clear e_m_2
  refine lv_aload_n Γ.1.1 Γ.1.2.1 dX11_markChanged_10 rfl (lv_at hl 0 rfl) ?_
  refine lv_iconst (v := (1 : Int32)) Γ.1.1 Γ.1.2.1 dX11_markChanged_11 (by decide) ?_
  refine put_X11_discountStale Γ hI (by decide) (by decide) gw_102 dX11_markChanged_12 (fun H locs hI => ?_)
  obtain ⟨σ_3, e_m_3, h⟩ := nm_some h
  rw [← e_m_3] at hI; clear e_m_3
  exact g_vret Γ hI dX11_markChanged_15 (Option.some.inj h)
set_option maxRecDepth 20000 in
set_option maxHeartbeats 4000000 in
theorem S_X11_net (l : Launch) (X : GX) (σ : GM) (σr : GM) (x : Int32) (h : f_X11_net σ = some (σr, x)) : gMet l yX11_net cX11_net 1 (some .int) ({ frames := 6, cells := 0, slots := 0, locals := 136 } : Room) X σ [.ref (X.2.1 + 0)] (gQi X σr x) := by
  unfold f_X11_net at h
  refine gMet_of (lv := [(0, .ref (X.2.1 + 0))]) (by decide) rfl (Nat.le_of_ble_eq_true rfl) rfl (fun p e s m below meth c H ls Γ hI hl => ?_)
  refine lv_aload_n Γ.1.1 Γ.1.2.1 dX11_net_0 rfl (lv_at hl 0 rfl) ?_
  refine lv_aload_n Γ.1.1 Γ.1.2.1 dX11_net_1 rfl (lv_at hl 0 rfl) ?_
  refine get_X11_reader Γ hI gw_103 dX11_net_2 ?_
  refine lv_aload_n Γ.1.1 Γ.1.2.1 dX11_net_5 rfl (lv_at hl 0 rfl) ?_
  refine get_X11_tape Γ hI gw_58 dX11_net_6 ?_
  obtain ⟨σ_2, r_1, hr_1, h⟩ := ob2_some h
  refine g_ci Γ hI (g_runV (As := [.ref (X.2.1 + 1)]) Γ hI (S_X6_readAll l X σ σ_2 r_1 hr_1) mf_X6_readAll (recv_X6 Γ hI) gw_104 rfl rfl ⟨Nat.le_of_ble_eq_true rfl, Nat.le_of_ble_eq_true rfl⟩ rfl hl.1 rfl (Nat.le_of_ble_eq_true rfl) dX11_net_9 ⟨Nat.zero_le _, Nat.zero_le _⟩) (fun H locs hI => ?_)
  clear hr_1
  refine put_X11_faultKind Γ hI gw_105 dX11_net_12 (fun H locs hI => ?_)
  obtain ⟨σ_3, e_m_3, h⟩ := nm_some h
  rw [← e_m_3] at hI; clear e_m_3
  refine lv_aload_n Γ.1.1 Γ.1.2.1 dX11_net_15 rfl (lv_at hl 0 rfl) ?_
  refine get_X11_tape Γ hI gw_58 dX11_net_16 ?_
  refine lv_iconst (v := (0 : Int32)) Γ.1.1 Γ.1.2.1 dX11_net_19 (by decide) ?_
  refine put_X10_length Γ hI gw_61 dX11_net_20 (fun H locs hI => ?_)
  obtain ⟨σ_4, e_m_4, h⟩ := nm_some h
  rw [← e_m_4] at hI; clear e_m_4
  refine lv_aload_n Γ.1.1 Γ.1.2.1 dX11_net_23 rfl (lv_at hl 0 rfl) ?_
  refine get_X11_faultKind Γ hI gw_105 dX11_net_24 ?_
  refine lv_if_eq (tgt := 40) Γ.1.1 Γ.1.2.1 dX11_net_27 (by decide) (fun c_5 => ?_) (fun c_5 => ?_)
  · replace h := ite_pos c_5 h; clear c_5
    refine lv_aload_n Γ.1.1 Γ.1.2.1 dX11_net_40 rfl (lv_at hl 0 rfl) ?_
    refine get_X11_net Γ hI gw_106 dX11_net_41 ?_
    refine lv_aload_n Γ.1.1 Γ.1.2.1 dX11_net_44 rfl (lv_at hl 0 rfl) ?_
    refine get_X11_reader Γ hI gw_103 dX11_net_45 ?_
    refine get_X6_found Γ hI gw_107 dX11_net_48 ?_
    obtain ⟨σ_7, hr_6, h⟩ := ob_some h
    refine g_cv Γ hI (g_runV (As := [.ref (X.2.1 + 4)]) Γ hI (S_X3_copyFrom l X σ_4 8 4 sh_8 sh_4 σ_7 hr_6) mf_X3_copyFrom (recv_X3 sh_8 Γ hI) gw_108 rfl rfl ⟨Nat.le_of_ble_eq_true rfl, Nat.le_of_ble_eq_true rfl⟩ rfl hl.1 rfl (Nat.le_of_ble_eq_true rfl) dX11_net_51 ⟨Nat.zero_le _, Nat.zero_le _⟩) (fun H locs hI => ?_)
    clear hr_6
    refine lv_aload_n Γ.1.1 Γ.1.2.1 dX11_net_54 rfl (lv_at hl 0 rfl) ?_
    refine get_X11_past Γ hI gw_109 dX11_net_55 ?_
    obtain ⟨σ_9, hr_8, h⟩ := ob_some h
    refine g_cv Γ hI (g_runV (As := []) Γ hI (S_X5_forget l X σ_7 σ_9 hr_8) mf_X5_forget (recv_X5 Γ hI) gw_110 rfl rfl ⟨Nat.le_of_ble_eq_true rfl, Nat.le_of_ble_eq_true rfl⟩ rfl hl.1 rfl (Nat.le_of_ble_eq_true rfl) dX11_net_58 ⟨Nat.zero_le _, Nat.zero_le _⟩) (fun H locs hI => ?_)
    clear hr_8
    refine lv_aload_n Γ.1.1 Γ.1.2.1 dX11_net_61 rfl (lv_at hl 0 rfl) ?_
    obtain ⟨σ_11, hr_10, h⟩ := ob_some h
    refine g_cv Γ hI (g_runV (As := []) Γ hI (S_X11_markChanged l X σ_9 σ_11 hr_10) mf_X11_markChanged (recv_X11 Γ hI) gw_111 rfl rfl ⟨Nat.le_of_ble_eq_true rfl, Nat.le_of_ble_eq_true rfl⟩ rfl hl.1 rfl (Nat.le_of_ble_eq_true rfl) dX11_net_62 ⟨Nat.zero_le _, Nat.zero_le _⟩) (fun H locs hI => ?_)
    clear hr_10
    refine lv_aload_n Γ.1.1 Γ.1.2.1 dX11_net_65 rfl (lv_at hl 0 rfl) ?_
    refine get_X11_reader Γ hI gw_103 dX11_net_66 ?_
    refine get_X6_rows Γ hI gw_112 dX11_net_69 ?_
    exact g_iret Γ hI dX11_net_72 (Prod.mk.inj (Option.some.inj h)).1 (Prod.mk.inj (Option.some.inj h)).2
  · replace h := ite_neg c_5 h; clear c_5
    refine lv_iconst (v := (-1 : Int32)) Γ.1.1 Γ.1.2.1 dX11_net_30 (by decide) ?_
    refine lv_aload_n Γ.1.1 Γ.1.2.1 dX11_net_31 rfl (lv_at hl 0 rfl) ?_
    refine get_X11_reader Γ hI gw_103 dX11_net_32 ?_
    refine get_X6_place Γ hI gw_113 dX11_net_35 ?_
    refine lv_isub Γ.1.1 Γ.1.2.1 dX11_net_38 ?_
    exact g_iret Γ hI dX11_net_39 (Prod.mk.inj (Option.some.inj h)).1 (Prod.mk.inj (Option.some.inj h)).2
set_option maxRecDepth 20000 in
set_option maxHeartbeats 4000000 in
theorem S_X11_fault (l : Launch) (X : GX) (σ : GM) (x : Int32) (h : f_X11_fault σ = some x) : gMet l yX11_fault cX11_fault 1 (some .int) ({ frames := 0, cells := 0, slots := 0, locals := 0 } : Room) X σ [.ref (X.2.1 + 0)] (gQi X σ x) := by
  unfold f_X11_fault at h
  refine gMet_of (lv := [(0, .ref (X.2.1 + 0))]) (by decide) rfl (Nat.le_of_ble_eq_true rfl) rfl (fun p e s m below meth c H ls Γ hI hl => ?_)
  refine lv_aload_n Γ.1.1 Γ.1.2.1 dX11_fault_0 rfl (lv_at hl 0 rfl) ?_
  refine get_X11_faultKind Γ hI gw_105 dX11_fault_1 ?_
  exact g_iret Γ hI dX11_fault_4 rfl (Option.some.inj h)
set_option maxRecDepth 20000 in
set_option maxHeartbeats 4000000 in
theorem S_X11_now (l : Launch) (X : GX) (σ : GM) (v1 : Int32) (x : Int32) (h : f_X11_now σ v1 = some x) : gMet l yX11_now cX11_now 2 (some .int) ({ frames := 4, cells := 0, slots := 0, locals := 91 } : Room) X σ [.ref (X.2.1 + 0), .int v1] (gQi X σ x) := by
  unfold f_X11_now at h
  refine gMet_of (lv := [(0, .ref (X.2.1 + 0)), (1, .int v1)]) (by decide) rfl (Nat.le_of_ble_eq_true rfl) rfl (fun p e s m below meth c H ls Γ hI hl => ?_)
  refine lv_iload_n Γ.1.1 Γ.1.2.1 dX11_now_0 rfl (lv_at hl 1 rfl) ?_
  by_cases c_1_0 : v1 = (0 : Int32)
  · replace h := ite_pos c_1_0 h
    refine lv_tableIn (off := 47) (tgt := 48) Γ.1.1 Γ.1.2.1 dX11_now_1 (by rw [c_1_0]; decide) (by rw [c_1_0]; decide) (by rw [c_1_0]; decide) (by decide) ?_
    refine lv_aload_n Γ.1.1 Γ.1.2.1 dX11_now_48 rfl (lv_at hl 0 rfl) ?_
    refine get_X11_net Γ hI gw_106 dX11_now_49 ?_
    refine get_X3_told sh_8 Γ hI gw_114 dX11_now_52 ?_
    exact g_iret Γ hI dX11_now_55 rfl (Option.some.inj h)
  · replace h := ite_neg c_1_0 h
    by_cases c_1_1 : v1 = (1 : Int32)
    · replace h := ite_pos c_1_1 h
      refine lv_tableIn (off := 55) (tgt := 56) Γ.1.1 Γ.1.2.1 dX11_now_1 (by rw [c_1_1]; decide) (by rw [c_1_1]; decide) (by rw [c_1_1]; decide) (by decide) ?_
      refine lv_aload_n Γ.1.1 Γ.1.2.1 dX11_now_56 rfl (lv_at hl 0 rfl) ?_
      refine get_X11_net Γ hI gw_106 dX11_now_57 ?_
      refine get_X3_there sh_8 Γ hI gw_115 dX11_now_60 ?_
      exact g_iret Γ hI dX11_now_63 rfl (Option.some.inj h)
    · replace h := ite_neg c_1_1 h
      by_cases c_1_2 : v1 = (2 : Int32)
      · replace h := ite_pos c_1_2 h
        refine lv_tableIn (off := 63) (tgt := 64) Γ.1.1 Γ.1.2.1 dX11_now_1 (by rw [c_1_2]; decide) (by rw [c_1_2]; decide) (by rw [c_1_2]; decide) (by decide) ?_
        refine lv_aload_n Γ.1.1 Γ.1.2.1 dX11_now_64 rfl (lv_at hl 0 rfl) ?_
        refine get_X11_net Γ hI gw_106 dX11_now_65 ?_
        refine get_X3_lineCount sh_8 Γ hI gw_116 dX11_now_68 ?_
        exact g_iret Γ hI dX11_now_71 rfl (Option.some.inj h)
      · replace h := ite_neg c_1_2 h
        by_cases c_1_3 : v1 = (3 : Int32)
        · replace h := ite_pos c_1_3 h
          refine lv_tableIn (off := 71) (tgt := 72) Γ.1.1 Γ.1.2.1 dX11_now_1 (by rw [c_1_3]; decide) (by rw [c_1_3]; decide) (by rw [c_1_3]; decide) (by decide) ?_
          refine lv_aload_n Γ.1.1 Γ.1.2.1 dX11_now_72 rfl (lv_at hl 0 rfl) ?_
          refine get_X11_net Γ hI gw_106 dX11_now_73 ?_
          refine get_X3_taken sh_8 Γ hI gw_117 dX11_now_76 ?_
          exact g_iret Γ hI dX11_now_79 rfl (Option.some.inj h)
        · replace h := ite_neg c_1_3 h
          by_cases c_1_4 : v1 = (4 : Int32)
          · replace h := ite_pos c_1_4 h
            refine lv_tableIn (off := 79) (tgt := 80) Γ.1.1 Γ.1.2.1 dX11_now_1 (by rw [c_1_4]; decide) (by rw [c_1_4]; decide) (by rw [c_1_4]; decide) (by decide) ?_
            refine lv_aload_n Γ.1.1 Γ.1.2.1 dX11_now_80 rfl (lv_at hl 0 rfl) ?_
            refine get_X11_net Γ hI gw_106 dX11_now_81 ?_
            refine lv_aload_n Γ.1.1 Γ.1.2.1 dX11_now_84 rfl (lv_at hl 0 rfl) ?_
            refine get_X11_net Γ hI gw_106 dX11_now_85 ?_
            refine get_X3_there sh_8 Γ hI gw_115 dX11_now_88 ?_
            obtain ⟨r_1, hr_1, h⟩ := ob_some h
            refine g_ci Γ hI (g_runV (As := [.int (σ.1 8 3)]) Γ hI (S_X3_partsIn l X σ 8 sh_8 (σ.1 8 3) r_1 hr_1) mf_X3_partsIn (recv_X3 sh_8 Γ hI) gw_118 rfl rfl ⟨Nat.le_of_ble_eq_true rfl, Nat.le_of_ble_eq_true rfl⟩ rfl hl.1 rfl (Nat.le_of_ble_eq_true rfl) dX11_now_91 ⟨Nat.zero_le _, Nat.zero_le _⟩) (fun H locs hI => ?_)
            clear hr_1
            exact g_iret Γ hI dX11_now_94 rfl (Option.some.inj h)
          · replace h := ite_neg c_1_4 h
            by_cases c_1_5 : v1 = (5 : Int32)
            · replace h := ite_pos c_1_5 h
              refine lv_tableIn (off := 94) (tgt := 95) Γ.1.1 Γ.1.2.1 dX11_now_1 (by rw [c_1_5]; decide) (by rw [c_1_5]; decide) (by rw [c_1_5]; decide) (by decide) ?_
              refine lv_aload_n Γ.1.1 Γ.1.2.1 dX11_now_95 rfl (lv_at hl 0 rfl) ?_
              refine get_X11_net Γ hI gw_106 dX11_now_96 ?_
              refine lv_aload_n Γ.1.1 Γ.1.2.1 dX11_now_99 rfl (lv_at hl 0 rfl) ?_
              refine get_X11_net Γ hI gw_106 dX11_now_100 ?_
              refine get_X3_there sh_8 Γ hI gw_115 dX11_now_103 ?_
              obtain ⟨r_3, hr_3, h⟩ := ob_some h
              refine g_ci Γ hI (g_runV (As := [.int (σ.1 8 3)]) Γ hI (S_X3_weightOfSet l X σ 8 sh_8 (σ.1 8 3) r_3 hr_3) mf_X3_weightOfSet (recv_X3 sh_8 Γ hI) gw_119 rfl rfl ⟨Nat.le_of_ble_eq_true rfl, Nat.le_of_ble_eq_true rfl⟩ rfl hl.1 rfl (Nat.le_of_ble_eq_true rfl) dX11_now_106 ⟨Nat.zero_le _, Nat.zero_le _⟩) (fun H locs hI => ?_)
              clear hr_3
              exact g_iret Γ hI dX11_now_109 rfl (Option.some.inj h)
            · replace h := ite_neg c_1_5 h
              by_cases c_1_6 : v1 = (6 : Int32)
              · replace h := ite_pos c_1_6 h
                refine lv_tableIn (off := 109) (tgt := 110) Γ.1.1 Γ.1.2.1 dX11_now_1 (by rw [c_1_6]; decide) (by rw [c_1_6]; decide) (by rw [c_1_6]; decide) (by decide) ?_
                refine lv_aload_n Γ.1.1 Γ.1.2.1 dX11_now_110 rfl (lv_at hl 0 rfl) ?_
                refine get_X11_past Γ hI gw_109 dX11_now_111 ?_
                refine get_X5_count Γ hI gw_120 dX11_now_114 ?_
                exact g_iret Γ hI dX11_now_117 rfl (Option.some.inj h)
              · replace h := ite_neg c_1_6 h
                by_cases c_1_7 : v1 = (7 : Int32)
                · replace h := ite_pos c_1_7 h
                  refine lv_tableIn (off := 117) (tgt := 118) Γ.1.1 Γ.1.2.1 dX11_now_1 (by rw [c_1_7]; decide) (by rw [c_1_7]; decide) (by rw [c_1_7]; decide) (by decide) ?_
                  refine lv_aload_n Γ.1.1 Γ.1.2.1 dX11_now_118 rfl (lv_at hl 0 rfl) ?_
                  refine get_X11_tape Γ hI gw_58 dX11_now_119 ?_
                  refine get_X10_length Γ hI gw_61 dX11_now_122 ?_
                  exact g_iret Γ hI dX11_now_125 rfl (Option.some.inj h)
                · replace h := ite_neg c_1_7 h
                  have hq0 : ¬ v1.toInt = 0 := lv_neT c_1_0 (by decide)
                  have hq1 : ¬ v1.toInt = 1 := lv_neT c_1_1 (by decide)
                  have hq2 : ¬ v1.toInt = 2 := lv_neT c_1_2 (by decide)
                  have hq3 : ¬ v1.toInt = 3 := lv_neT c_1_3 (by decide)
                  have hq4 : ¬ v1.toInt = 4 := lv_neT c_1_4 (by decide)
                  have hq5 : ¬ v1.toInt = 5 := lv_neT c_1_5 (by decide)
                  have hq6 : ¬ v1.toInt = 6 := lv_neT c_1_6 (by decide)
                  have hq7 : ¬ v1.toInt = 7 := lv_neT c_1_7 (by decide)
                  refine lv_tableOut (tgt := 126) Γ.1.1 Γ.1.2.1 dX11_now_1 (by omega) (by decide) ?_
                  clear hq0 hq1 hq2 hq3 hq4 hq5 hq6 hq7
                  refine lv_iconst (v := (-1 : Int32)) Γ.1.1 Γ.1.2.1 dX11_now_126 (by decide) ?_
                  exact g_iret Γ hI dX11_now_127 rfl (Option.some.inj h)
set_option maxRecDepth 20000 in
set_option maxHeartbeats 4000000 in
theorem S_X11_lines (l : Launch) (X : GX) (σ : GM) (v1 : Int32) (v2 : Int32) (x : Int32) (h : f_X11_lines σ v1 v2 = some x) : gMet l yX11_lines cX11_lines 3 (some .int) ({ frames := 2, cells := 0, slots := 0, locals := 42 } : Room) X σ [.ref (X.2.1 + 0), .int v1, .int v2] (gQi X σ x) := by
  unfold f_X11_lines at h
  refine gMet_of (lv := [(0, .ref (X.2.1 + 0)), (1, .int v1), (2, .int v2)]) (by decide) rfl (Nat.le_of_ble_eq_true rfl) rfl (fun p e s m below meth c H ls Γ hI hl => ?_)
  refine lv_aload_n Γ.1.1 Γ.1.2.1 dX11_lines_0 rfl (lv_at hl 0 rfl) ?_
  refine get_X11_net Γ hI gw_106 dX11_lines_1 ?_
  refine lv_iload_n Γ.1.1 Γ.1.2.1 dX11_lines_4 rfl (lv_at hl 1 rfl) ?_
  obtain ⟨r_1, hr_1, h⟩ := ob_some h
  refine g_ci Γ hI (g_runV (As := [.int v1]) Γ hI (S_X3_isThere l X σ 8 sh_8 v1 r_1 hr_1) mf_X3_isThere (recv_X3 sh_8 Γ hI) gw_121 rfl rfl ⟨Nat.le_of_ble_eq_true rfl, Nat.le_of_ble_eq_true rfl⟩ rfl hl.1 rfl (Nat.le_of_ble_eq_true rfl) dX11_lines_5 ⟨Nat.zero_le _, Nat.zero_le _⟩) (fun H locs hI => ?_)
  clear hr_1
  refine lv_if_eq (tgt := 34) Γ.1.1 Γ.1.2.1 dX11_lines_8 (by decide) (fun c_3 => ?_) (fun c_3 => ?_)
  · replace h := ite_pos c_3 h; clear c_3
    refine lv_iconst (v := (-1 : Int32)) Γ.1.1 Γ.1.2.1 dX11_lines_34 (by decide) ?_
    exact g_iret Γ hI dX11_lines_35 rfl (Option.some.inj h)
  · replace h := ite_neg c_3 h; clear c_3
    refine lv_aload_n Γ.1.1 Γ.1.2.1 dX11_lines_11 rfl (lv_at hl 0 rfl) ?_
    refine get_X11_net Γ hI gw_106 dX11_lines_12 ?_
    refine lv_iload_n Γ.1.1 Γ.1.2.1 dX11_lines_15 rfl (lv_at hl 2 rfl) ?_
    obtain ⟨r_4, hr_4, h⟩ := ob_some h
    refine g_ci Γ hI (g_runV (As := [.int v2]) Γ hI (S_X3_isThere l X σ 8 sh_8 v2 r_4 hr_4) mf_X3_isThere (recv_X3 sh_8 Γ hI) gw_121 rfl rfl ⟨Nat.le_of_ble_eq_true rfl, Nat.le_of_ble_eq_true rfl⟩ rfl hl.1 rfl (Nat.le_of_ble_eq_true rfl) dX11_lines_16 ⟨Nat.zero_le _, Nat.zero_le _⟩) (fun H locs hI => ?_)
    clear hr_4
    refine lv_if_eq (tgt := 34) Γ.1.1 Γ.1.2.1 dX11_lines_19 (by decide) (fun c_6 => ?_) (fun c_6 => ?_)
    · replace h := ite_pos c_6 h; clear c_6
      refine lv_iconst (v := (-1 : Int32)) Γ.1.1 Γ.1.2.1 dX11_lines_34 (by decide) ?_
      exact g_iret Γ hI dX11_lines_35 rfl (Option.some.inj h)
    · replace h := ite_neg c_6 h; clear c_6
      refine lv_aload_n Γ.1.1 Γ.1.2.1 dX11_lines_22 rfl (lv_at hl 0 rfl) ?_
      refine get_X11_net Γ hI gw_106 dX11_lines_23 ?_
      refine lv_iload_n Γ.1.1 Γ.1.2.1 dX11_lines_26 rfl (lv_at hl 1 rfl) ?_
      refine lv_iload_n Γ.1.1 Γ.1.2.1 dX11_lines_27 rfl (lv_at hl 2 rfl) ?_
      obtain ⟨r_7, hr_7, h⟩ := ob_some h
      refine g_ci Γ hI (g_runV (As := [.int v1, .int v2]) Γ hI (S_X3_linesOf l X σ 8 sh_8 v1 v2 r_7 hr_7) mf_X3_linesOf (recv_X3 sh_8 Γ hI) gw_122 rfl rfl ⟨Nat.le_of_ble_eq_true rfl, Nat.le_of_ble_eq_true rfl⟩ rfl hl.1 rfl (Nat.le_of_ble_eq_true rfl) dX11_lines_28 ⟨Nat.zero_le _, Nat.zero_le _⟩) (fun H locs hI => ?_)
      clear hr_7
      refine lv_goto (tgt := 35) Γ.1.1 Γ.1.2.1 dX11_lines_31 (by decide) ?_
      exact g_iret Γ hI dX11_lines_35 rfl (Option.some.inj h)
set_option maxRecDepth 20000 in
set_option maxHeartbeats 4000000 in
theorem s_X8_isFreeByTip_L56 {p : Program} {l : Launch} {e : Env} {s : State} {m : MethodId} {args : Array Value} {below : List Frame} {meth : Method} {c : Code} {X : GX} (σ : GM) (x : Int32) (Γ : gC X p m meth c cX8_isFreeByTip 4 s args RX8 (some .boolean)) :
    ∀ (v1 : Int32) (v2 : Int32) (H : Heap) (locs : List Loc) (ls : Array Slot), gI X σ s H locs → lv_has ls 4 [(0, .ref (X.2.1 + 49)), (1, .int v1), (2, .int v2)] → f_X8_isFreeByTip_L56 σ v1 v2 = some x →
    W p l e ({ frames := 1, cells := 0, slots := 0, locals := 21 } : Room) s m args below meth c H locs 0 0 (MQ below (gQi X σ x) args s 0 0 (gA X)) (F0 m 56 ls []) := by
  intro v1 v2 H locs ls hI hl h
  unfold f_X8_isFreeByTip_L56 at h
  refine lv_aload_n Γ.1.1 Γ.1.2.1 dX8_isFreeByTip_56 rfl (lv_at hl 0 rfl) ?_
  refine lv_iload_n Γ.1.1 Γ.1.2.1 dX8_isFreeByTip_57 rfl (lv_at hl 1 rfl) ?_
  refine lv_iconst (v := (1 : Int32)) Γ.1.1 Γ.1.2.1 dX8_isFreeByTip_58 (by decide) ?_
  refine lv_iload_n Γ.1.1 Γ.1.2.1 dX8_isFreeByTip_59 rfl (lv_at hl 2 rfl) ?_
  refine lv_ishl Γ.1.1 Γ.1.2.1 dX8_isFreeByTip_60 ?_
  refine lv_iconst (v := (-1 : Int32)) Γ.1.1 Γ.1.2.1 dX8_isFreeByTip_61 (by decide) ?_
  refine lv_ixor Γ.1.1 Γ.1.2.1 dX8_isFreeByTip_62 ?_
  refine lv_iand Γ.1.1 Γ.1.2.1 dX8_isFreeByTip_63 ?_
  obtain ⟨r_14, hr_14, h⟩ := ob_some h
  refine g_ci Γ hI (g_runV (As := [.int (v1 &&& (((1 : Int32) <<< (v2 &&& 31)) ^^^ (-1 : Int32)))]) Γ hI (S_X8_isFree l X σ (v1 &&& (((1 : Int32) <<< (v2 &&& 31)) ^^^ (-1 : Int32))) r_14 hr_14) mf_X8_isFree (recv_X8 Γ hI) gw_126 rfl rfl ⟨Nat.le_of_ble_eq_true rfl, Nat.le_of_ble_eq_true rfl⟩ rfl hl.1 rfl (Nat.le_of_ble_eq_true rfl) dX8_isFreeByTip_64 ⟨Nat.zero_le _, Nat.zero_le _⟩) (fun H locs hI => ?_)
  clear hr_14
  exact g_zret Γ hI dX8_isFreeByTip_67 rfl (Option.some.inj h)
set_option maxRecDepth 20000 in
set_option maxHeartbeats 4000000 in
theorem s_X8_isFreeByTip_L2 {p : Program} {l : Launch} {e : Env} {s : State} {m : MethodId} {args : Array Value} {below : List Frame} {meth : Method} {c : Code} {X : GX} (σ : GM) (x : Int32) (Γ : gC X p m meth c cX8_isFreeByTip 4 s args RX8 (some .boolean)) (v1 : Int32) :
    ∀ (k : Nat) (v2 : Int32) (H : Heap) (locs : List Loc) (ls : Array Slot), gI X σ s H locs → lv_has ls 4 [(0, .ref (X.2.1 + 49)), (1, .int v1), (2, .int v2)] → f_X8_isFreeByTip_L2 σ v1 k v2 = some x →
    W p l e ({ frames := 1, cells := 0, slots := 0, locals := 21 } : Room) s m args below meth c H locs 0 0 (MQ below (gQi X σ x) args s 0 0 (gA X)) (F0 m 2 ls []) := by
  intro k
  induction k with
  | zero =>
    intro v2 H locs ls hI hl h
    exact absurd h (by simp [f_X8_isFreeByTip_L2])
  | succ k ih =>
    intro v2 H locs ls hI hl h
    unfold f_X8_isFreeByTip_L2 at h
    refine lv_iload_n Γ.1.1 Γ.1.2.1 dX8_isFreeByTip_2 rfl (lv_at hl 2 rfl) ?_
    refine lv_aload_n Γ.1.1 Γ.1.2.1 dX8_isFreeByTip_3 rfl (lv_at hl 0 rfl) ?_
    refine get_X8_beside Γ hI gw_123 dX8_isFreeByTip_4 ?_
    refine g_alen Γ hI sh_51 (by decide) (v := (12 : Int32)) (by decide) dX8_isFreeByTip_7 ?_
    refine lv_icmp_ge (tgt := 74) Γ.1.1 Γ.1.2.1 dX8_isFreeByTip_8 (by decide) (fun c_1 => ?_) (fun c_1 => ?_)
    · replace h := ite_pos c_1 h; clear c_1
      refine lv_iconst (v := (0 : Int32)) Γ.1.1 Γ.1.2.1 dX8_isFreeByTip_74 (by decide) ?_
      exact g_zret Γ hI dX8_isFreeByTip_75 rfl (Option.some.inj h)
    · replace h := ite_neg c_1 h; clear c_1
      refine lv_iload_n Γ.1.1 Γ.1.2.1 dX8_isFreeByTip_11 rfl (lv_at hl 2 rfl) ?_
      refine lv_aload_n Γ.1.1 Γ.1.2.1 dX8_isFreeByTip_12 rfl (lv_at hl 0 rfl) ?_
      refine get_X8_doubled Γ hI gw_124 dX8_isFreeByTip_13 ?_
      refine g_alen Γ hI sh_52 (by decide) (v := (12 : Int32)) (by decide) dX8_isFreeByTip_16 ?_
      refine lv_icmp_ge (tgt := 74) Γ.1.1 Γ.1.2.1 dX8_isFreeByTip_17 (by decide) (fun c_2 => ?_) (fun c_2 => ?_)
      · replace h := ite_pos c_2 h; clear c_2
        refine lv_iconst (v := (0 : Int32)) Γ.1.1 Γ.1.2.1 dX8_isFreeByTip_74 (by decide) ?_
        exact g_zret Γ hI dX8_isFreeByTip_75 rfl (Option.some.inj h)
      · replace h := ite_neg c_2 h; clear c_2
        refine lv_aload_n Γ.1.1 Γ.1.2.1 dX8_isFreeByTip_20 rfl (lv_at hl 0 rfl) ?_
        refine get_X8_beside Γ hI gw_123 dX8_isFreeByTip_21 ?_
        refine lv_iload_n Γ.1.1 Γ.1.2.1 dX8_isFreeByTip_24 rfl (lv_at hl 2 rfl) ?_
        obtain ⟨hb_3, h⟩ := bnd_some h
        refine g_iald Γ hI sh_51 hb_3 dX8_isFreeByTip_25 ?_
        refine lv_iload_n Γ.1.1 Γ.1.2.1 dX8_isFreeByTip_26 rfl (lv_at hl 1 rfl) ?_
        refine lv_iand Γ.1.1 Γ.1.2.1 dX8_isFreeByTip_27 ?_
        refine lv_topi (fun v3_4 e_v3_4 => ?_)
        replace h := nm_at e_v3_4 h; clear e_v3_4
        refine lv_istore_n (lv' := [(3, .int v3_4), (0, .ref (X.2.1 + 49)), (1, .int v1), (2, .int v2)]) Γ.1.1 Γ.1.2.1 dX8_isFreeByTip_28 rfl hl (by decide) rfl (fun ls hl => ?_)
        refine lv_iload_n Γ.1.1 Γ.1.2.1 dX8_isFreeByTip_29 rfl (lv_at hl 2 rfl) ?_
        refine lv_iload_n Γ.1.1 Γ.1.2.1 dX8_isFreeByTip_30 rfl (lv_at hl 3 rfl) ?_
        obtain ⟨r_5, hr_5, h⟩ := ob_some h
        refine g_ci Γ hI (g_runS (As := [.int v1, .int v2]) Γ hI (S_X3_holds l X σ v1 v2 r_5 hr_5) mf_X3_holds gw_125 rfl rfl ⟨Nat.le_of_ble_eq_true rfl, Nat.le_of_ble_eq_true rfl⟩ rfl hl.1 rfl (Nat.le_of_ble_eq_true rfl) dX8_isFreeByTip_31 ⟨Nat.zero_le _, Nat.zero_le _⟩) (fun H locs hI => ?_)
        clear hr_5
        refine lv_if_eq (tgt := 68) Γ.1.1 Γ.1.2.1 dX8_isFreeByTip_34 (by decide) (fun c_7 => ?_) (fun c_7 => ?_)
        · replace h := ite_pos c_7 h; clear c_7
          obtain ⟨v2_8, e_v2_8, h⟩ := nm_some h
          refine lv_iinc (v := v2_8) (lv' := [(2, .int v2_8), (3, .int v3_4), (0, .ref (X.2.1 + 49)), (1, .int v1)]) Γ.1.1 Γ.1.2.1 dX8_isFreeByTip_68 hl (k := 3) rfl (by rw [e_v2_8]; rfl) (by decide) rfl (fun ls hl => ?_)
          clear e_v2_8
          refine lv_goto (tgt := 2) Γ.1.1 Γ.1.2.1 dX8_isFreeByTip_71 (by decide) ?_
          exact ih v2_8 _ _ _ hI (lv_sub hl [2, 3, 0] rfl) h
        · replace h := ite_neg c_7 h; clear c_7
          refine lv_aload_n Γ.1.1 Γ.1.2.1 dX8_isFreeByTip_37 rfl (lv_at hl 1 rfl) ?_
          refine get_X8_doubled Γ hI gw_124 dX8_isFreeByTip_38 ?_
          refine lv_iload_n Γ.1.1 Γ.1.2.1 dX8_isFreeByTip_41 rfl (lv_at hl 3 rfl) ?_
          obtain ⟨hb_9, h⟩ := bnd_some h
          refine g_iald Γ hI sh_52 hb_9 dX8_isFreeByTip_42 ?_
          refine lv_iload_n Γ.1.1 Γ.1.2.1 dX8_isFreeByTip_43 rfl (lv_at hl 2 rfl) ?_
          refine lv_iand Γ.1.1 Γ.1.2.1 dX8_isFreeByTip_44 ?_
          refine lv_if_ne (tgt := 68) Γ.1.1 Γ.1.2.1 dX8_isFreeByTip_45 (by decide) (fun c_10 => ?_) (fun c_10 => ?_)
          · replace h := ite_neg c_10 h; clear c_10
            obtain ⟨v2_11, e_v2_11, h⟩ := nm_some h
            refine lv_iinc (v := v2_11) (lv' := [(2, .int v2_11), (3, .int v3_4), (0, .ref (X.2.1 + 49)), (1, .int v1)]) Γ.1.1 Γ.1.2.1 dX8_isFreeByTip_68 hl (k := 3) rfl (by rw [e_v2_11]; rfl) (by decide) rfl (fun ls hl => ?_)
            clear e_v2_11
            refine lv_goto (tgt := 2) Γ.1.1 Γ.1.2.1 dX8_isFreeByTip_71 (by decide) ?_
            exact ih v2_11 _ _ _ hI (lv_sub hl [2, 3, 0] rfl) h
          · replace h := ite_pos c_10 h; clear c_10
            refine lv_iload_n Γ.1.1 Γ.1.2.1 dX8_isFreeByTip_48 rfl (lv_at hl 0 rfl) ?_
            refine lv_iload_n Γ.1.1 Γ.1.2.1 dX8_isFreeByTip_49 rfl (lv_at hl 0 rfl) ?_
            refine lv_iconst (v := (1 : Int32)) Γ.1.1 Γ.1.2.1 dX8_isFreeByTip_50 (by decide) ?_
            refine lv_isub Γ.1.1 Γ.1.2.1 dX8_isFreeByTip_51 ?_
            refine lv_iand Γ.1.1 Γ.1.2.1 dX8_isFreeByTip_52 ?_
            refine lv_if_ne (tgt := 68) Γ.1.1 Γ.1.2.1 dX8_isFreeByTip_53 (by decide) (fun c_12 => ?_) (fun c_12 => ?_)
            · replace h := ite_neg c_12 h; clear c_12
              obtain ⟨v2_13, e_v2_13, h⟩ := nm_some h
              refine lv_iinc (v := v2_13) (lv' := [(2, .int v2_13), (3, .int v3_4), (0, .ref (X.2.1 + 49)), (1, .int v1)]) Γ.1.1 Γ.1.2.1 dX8_isFreeByTip_68 hl (k := 3) rfl (by rw [e_v2_13]; rfl) (by decide) rfl (fun ls hl => ?_)
              clear e_v2_13
              refine lv_goto (tgt := 2) Γ.1.1 Γ.1.2.1 dX8_isFreeByTip_71 (by decide) ?_
              exact ih v2_13 _ _ _ hI (lv_sub hl [2, 3, 0] rfl) h
            · replace h := ite_pos c_12 h; clear c_12
              exact s_X8_isFreeByTip_L56 σ x Γ v1 v2 _ _ _ hI (lv_sub hl [1, 2, 3] rfl) h
set_option maxRecDepth 20000 in
set_option maxHeartbeats 4000000 in
theorem S_X8_isFreeByTip (l : Launch) (X : GX) (σ : GM) (v1 : Int32) (x : Int32) (h : f_X8_isFreeByTip σ v1 = some x) : gMet l yX8_isFreeByTip cX8_isFreeByTip 4 (some .boolean) ({ frames := 1, cells := 0, slots := 0, locals := 21 } : Room) X σ [.ref (X.2.1 + 49), .int v1] (gQi X σ x) := by
  unfold f_X8_isFreeByTip at h
  refine gMet_of (lv := [(0, .ref (X.2.1 + 49)), (1, .int v1)]) (by decide) rfl (Nat.le_of_ble_eq_true rfl) rfl (fun p e s m below meth c H ls Γ hI hl => ?_)
  refine lv_iconst (v := (0 : Int32)) Γ.1.1 Γ.1.2.1 dX8_isFreeByTip_0 (by decide) ?_
  refine lv_istore_n (lv' := [(2, .int (0 : Int32)), (0, .ref (X.2.1 + 49)), (1, .int v1)]) Γ.1.1 Γ.1.2.1 dX8_isFreeByTip_1 rfl hl (by decide) rfl (fun ls hl => ?_)
  exact s_X8_isFreeByTip_L2 σ x Γ v1 _ (0 : Int32) _ _ _ hI (lv_sub hl [1, 2, 0] rfl) h
set_option maxRecDepth 20000 in
set_option maxHeartbeats 4000000 in
theorem s_X8_isLeastRing_L12 {p : Program} {l : Launch} {e : Env} {s : State} {m : MethodId} {args : Array Value} {below : List Frame} {meth : Method} {c : Code} {X : GX} (σ : GM) (x : Int32) (Γ : gC X p m meth c cX8_isLeastRing 3 s args RX8 (some .boolean)) (v1 : Int32) :
    ∀ (k : Nat) (v2 : Int32) (H : Heap) (locs : List Loc) (ls : Array Slot), gI X σ s H locs → lv_has ls 3 [(0, .ref (X.2.1 + 49)), (1, .int v1), (2, .int v2)] → f_X8_isLeastRing_L12 σ v1 k v2 = some x →
    W p l e ({ frames := 1, cells := 0, slots := 0, locals := 21 } : Room) s m args below meth c H locs 0 0 (MQ below (gQi X σ x) args s 0 0 (gA X)) (F0 m 12 ls []) := by
  intro k
  induction k with
  | zero =>
    intro v2 H locs ls hI hl h
    exact absurd h (by simp [f_X8_isLeastRing_L12])
  | succ k ih =>
    intro v2 H locs ls hI hl h
    unfold f_X8_isLeastRing_L12 at h
    refine lv_iload_n Γ.1.1 Γ.1.2.1 dX8_isLeastRing_12 rfl (lv_at hl 2 rfl) ?_
    refine lv_bipush (v := (12 : Int32)) Γ.1.1 Γ.1.2.1 dX8_isLeastRing_13 (by decide) ?_
    refine lv_icmp_ge (tgt := 48) Γ.1.1 Γ.1.2.1 dX8_isLeastRing_15 (by decide) (fun c_4 => ?_) (fun c_4 => ?_)
    · replace h := ite_pos c_4 h; clear c_4
      refine lv_iconst (v := (1 : Int32)) Γ.1.1 Γ.1.2.1 dX8_isLeastRing_48 (by decide) ?_
      exact g_zret Γ hI dX8_isLeastRing_49 rfl (Option.some.inj h)
    · replace h := ite_neg c_4 h; clear c_4
      refine lv_iload_n Γ.1.1 Γ.1.2.1 dX8_isLeastRing_18 rfl (lv_at hl 1 rfl) ?_
      refine lv_iload_n Γ.1.1 Γ.1.2.1 dX8_isLeastRing_19 rfl (lv_at hl 2 rfl) ?_
      obtain ⟨r_5, hr_5, h⟩ := ob_some h
      refine g_ci Γ hI (g_runS (As := [.int v1, .int v2]) Γ hI (S_X3_holds l X σ v1 v2 r_5 hr_5) mf_X3_holds gw_125 rfl rfl ⟨Nat.le_of_ble_eq_true rfl, Nat.le_of_ble_eq_true rfl⟩ rfl hl.1 rfl (Nat.le_of_ble_eq_true rfl) dX8_isLeastRing_20 ⟨Nat.zero_le _, Nat.zero_le _⟩) (fun H locs hI => ?_)
      clear hr_5
      refine lv_if_eq (tgt := 42) Γ.1.1 Γ.1.2.1 dX8_isLeastRing_23 (by decide) (fun c_7 => ?_) (fun c_7 => ?_)
      · replace h := ite_pos c_7 h; clear c_7
        obtain ⟨v2_8, e_v2_8, h⟩ := nm_some h
        refine lv_iinc (v := v2_8) (lv' := [(2, .int v2_8), (0, .ref (X.2.1 + 49)), (1, .int v1)]) Γ.1.1 Γ.1.2.1 dX8_isLeastRing_42 hl (k := 2) rfl (by rw [e_v2_8]; rfl) (by decide) rfl (fun ls hl => ?_)
        clear e_v2_8
        refine lv_goto (tgt := 12) Γ.1.1 Γ.1.2.1 dX8_isLeastRing_45 (by decide) ?_
        exact ih v2_8 _ _ _ hI (lv_sub hl [1, 2, 0] rfl) h
      · replace h := ite_neg c_7 h; clear c_7
        refine lv_aload_n Γ.1.1 Γ.1.2.1 dX8_isLeastRing_26 rfl (lv_at hl 0 rfl) ?_
        refine lv_iload_n Γ.1.1 Γ.1.2.1 dX8_isLeastRing_27 rfl (lv_at hl 1 rfl) ?_
        refine lv_iconst (v := (1 : Int32)) Γ.1.1 Γ.1.2.1 dX8_isLeastRing_28 (by decide) ?_
        refine lv_iload_n Γ.1.1 Γ.1.2.1 dX8_isLeastRing_29 rfl (lv_at hl 2 rfl) ?_
        refine lv_ishl Γ.1.1 Γ.1.2.1 dX8_isLeastRing_30 ?_
        refine lv_iconst (v := (-1 : Int32)) Γ.1.1 Γ.1.2.1 dX8_isLeastRing_31 (by decide) ?_
        refine lv_ixor Γ.1.1 Γ.1.2.1 dX8_isLeastRing_32 ?_
        refine lv_iand Γ.1.1 Γ.1.2.1 dX8_isLeastRing_33 ?_
        obtain ⟨r_9, hr_9, h⟩ := ob_some h
        refine g_ci Γ hI (g_runV (As := [.int (v1 &&& (((1 : Int32) <<< (v2 &&& 31)) ^^^ (-1 : Int32)))]) Γ hI (S_X8_isFree l X σ (v1 &&& (((1 : Int32) <<< (v2 &&& 31)) ^^^ (-1 : Int32))) r_9 hr_9) mf_X8_isFree (recv_X8 Γ hI) gw_126 rfl rfl ⟨Nat.le_of_ble_eq_true rfl, Nat.le_of_ble_eq_true rfl⟩ rfl hl.1 rfl (Nat.le_of_ble_eq_true rfl) dX8_isLeastRing_34 ⟨Nat.zero_le _, Nat.zero_le _⟩) (fun H locs hI => ?_)
        clear hr_9
        refine lv_if_ne (tgt := 42) Γ.1.1 Γ.1.2.1 dX8_isLeastRing_37 (by decide) (fun c_11 => ?_) (fun c_11 => ?_)
        · replace h := ite_neg c_11 h; clear c_11
          obtain ⟨v2_12, e_v2_12, h⟩ := nm_some h
          refine lv_iinc (v := v2_12) (lv' := [(2, .int v2_12), (0, .ref (X.2.1 + 49)), (1, .int v1)]) Γ.1.1 Γ.1.2.1 dX8_isLeastRing_42 hl (k := 2) rfl (by rw [e_v2_12]; rfl) (by decide) rfl (fun ls hl => ?_)
          clear e_v2_12
          refine lv_goto (tgt := 12) Γ.1.1 Γ.1.2.1 dX8_isLeastRing_45 (by decide) ?_
          exact ih v2_12 _ _ _ hI (lv_sub hl [1, 2, 0] rfl) h
        · replace h := ite_pos c_11 h; clear c_11
          refine lv_iconst (v := (0 : Int32)) Γ.1.1 Γ.1.2.1 dX8_isLeastRing_40 (by decide) ?_
          exact g_zret Γ hI dX8_isLeastRing_41 rfl (Option.some.inj h)
set_option maxRecDepth 20000 in
set_option maxHeartbeats 4000000 in
theorem S_X8_isLeastRing (l : Launch) (X : GX) (σ : GM) (v1 : Int32) (x : Int32) (h : f_X8_isLeastRing σ v1 = some x) : gMet l yX8_isLeastRing cX8_isLeastRing 3 (some .boolean) ({ frames := 1, cells := 0, slots := 0, locals := 21 } : Room) X σ [.ref (X.2.1 + 49), .int v1] (gQi X σ x) := by
  unfold f_X8_isLeastRing at h
  refine gMet_of (lv := [(0, .ref (X.2.1 + 49)), (1, .int v1)]) (by decide) rfl (Nat.le_of_ble_eq_true rfl) rfl (fun p e s m below meth c H ls Γ hI hl => ?_)
  refine lv_aload_n Γ.1.1 Γ.1.2.1 dX8_isLeastRing_0 rfl (lv_at hl 0 rfl) ?_
  refine lv_iload_n Γ.1.1 Γ.1.2.1 dX8_isLeastRing_1 rfl (lv_at hl 1 rfl) ?_
  obtain ⟨r_1, hr_1, h⟩ := ob_some h
  refine g_ci Γ hI (g_runV (As := [.int v1]) Γ hI (S_X8_isFree l X σ v1 r_1 hr_1) mf_X8_isFree (recv_X8 Γ hI) gw_126 rfl rfl ⟨Nat.le_of_ble_eq_true rfl, Nat.le_of_ble_eq_true rfl⟩ rfl hl.1 rfl (Nat.le_of_ble_eq_true rfl) dX8_isLeastRing_2 ⟨Nat.zero_le _, Nat.zero_le _⟩) (fun H locs hI => ?_)
  clear hr_1
  refine lv_if_eq (tgt := 10) Γ.1.1 Γ.1.2.1 dX8_isLeastRing_5 (by decide) (fun c_3 => ?_) (fun c_3 => ?_)
  · replace h := ite_pos c_3 h; clear c_3
    refine lv_iconst (v := (0 : Int32)) Γ.1.1 Γ.1.2.1 dX8_isLeastRing_10 (by decide) ?_
    refine lv_istore_n (lv' := [(2, .int (0 : Int32)), (0, .ref (X.2.1 + 49)), (1, .int v1)]) Γ.1.1 Γ.1.2.1 dX8_isLeastRing_11 rfl hl (by decide) rfl (fun ls hl => ?_)
    exact s_X8_isLeastRing_L12 σ x Γ v1 _ (0 : Int32) _ _ _ hI (lv_sub hl [1, 2, 0] rfl) h
  · replace h := ite_neg c_3 h; clear c_3
    refine lv_iconst (v := (0 : Int32)) Γ.1.1 Γ.1.2.1 dX8_isLeastRing_8 (by decide) ?_
    exact g_zret Γ hI dX8_isLeastRing_9 rfl (Option.some.inj h)
set_option maxRecDepth 20000 in
set_option maxHeartbeats 4000000 in
theorem s_X8_learnRings_L90 {p : Program} {l : Launch} {e : Env} {s : State} {m : MethodId} {args : Array Value} {below : List Frame} {meth : Method} {c : Code} {X : GX} (σr : GM) (Γ : gC X p m meth c cX8_learnRings 5 s args RX8 none) (v1 : Int32) (v2 : Int32) (v3 : Int32) (k7 : GM → Int32 → Option GM) (hk7 : ∀ (σ : GM) (v2 : Int32) (H : Heap) (locs : List Loc) (ls : Array Slot), gI X σ s H locs → lv_has ls 5 [(0, .ref (X.2.1 + 49)), (1, .int v1), (2, .int v2)] → k7 σ v2 = some σr → W p l e ({ frames := 2, cells := 0, slots := 0, locals := 43 } : Room) s m args below meth c H locs 0 0 (MQ below (gQv X σr) args s 0 0 (gA X)) (F0 m 7 ls [])) (k33 : GM → Int32 → Option GM) (hk33 : ∀ (σ : GM) (v4 : Int32) (H : Heap) (locs : List Loc) (ls : Array Slot), gI X σ s H locs → lv_has ls 5 [(0, .ref (X.2.1 + 49)), (1, .int v1), (2, .int v2), (3, .int v3), (4, .int v4)] → k33 σ v4 = some σr → W p l e ({ frames := 2, cells := 0, slots := 0, locals := 43 } : Room) s m args below meth c H locs 0 0 (MQ below (gQv X σr) args s 0 0 (gA X)) (F0 m 33 ls [])) :
    ∀ (σ : GM) (v4 : Int32) (H : Heap) (locs : List Loc) (ls : Array Slot), gI X σ s H locs → lv_has ls 5 [(0, .ref (X.2.1 + 49)), (1, .int v1), (2, .int v2), (3, .int v3), (4, .int v4)] → f_X8_learnRings_L90 k7 k33 v1 v2 v3 σ v4 = some σr →
    W p l e ({ frames := 2, cells := 0, slots := 0, locals := 43 } : Room) s m args below meth c H locs 0 0 (MQ below (gQv X σr) args s 0 0 (gA X)) (F0 m 90 ls []) := by
  intro σ v4 H locs ls hI hl h
  unfold f_X8_learnRings_L90 at h
  refine lv_iload Γ.1.1 Γ.1.2.1 dX8_learnRings_90 (lv_at hl 4 rfl) ?_
  refine lv_iconst (v := (2 : Int32)) Γ.1.1 Γ.1.2.1 dX8_learnRings_92 (by decide) ?_
  refine lv_iload_n Γ.1.1 Γ.1.2.1 dX8_learnRings_93 rfl (lv_at hl 3 rfl) ?_
  refine lv_imul Γ.1.1 Γ.1.2.1 dX8_learnRings_94 ?_
  refine lv_iadd Γ.1.1 Γ.1.2.1 dX8_learnRings_95 ?_
  refine lv_topi (fun v4_9 e_v4_9 => ?_)
  replace h := nm_at e_v4_9 h; clear e_v4_9
  refine lv_istore (lv' := [(4, .int v4_9), (0, .ref (X.2.1 + 49)), (1, .int v1), (2, .int v2), (3, .int v3)]) Γ.1.1 Γ.1.2.1 dX8_learnRings_96 hl (by decide) rfl (fun ls hl => ?_)
  refine lv_goto (tgt := 33) Γ.1.1 Γ.1.2.1 dX8_learnRings_98 (by decide) ?_
  exact hk33 σ v4_9 _ _ _ hI (lv_sub hl [1, 2, 3, 4, 0] rfl) h
set_option maxRecDepth 20000 in
set_option maxHeartbeats 4000000 in
theorem s_X8_learnRings_L33 {p : Program} {l : Launch} {e : Env} {s : State} {m : MethodId} {args : Array Value} {below : List Frame} {meth : Method} {c : Code} {X : GX} (σr : GM) (Γ : gC X p m meth c cX8_learnRings 5 s args RX8 none) (v1 : Int32) (v2 : Int32) (v3 : Int32) (k7 : GM → Int32 → Option GM) (hk7 : ∀ (σ : GM) (v2 : Int32) (H : Heap) (locs : List Loc) (ls : Array Slot), gI X σ s H locs → lv_has ls 5 [(0, .ref (X.2.1 + 49)), (1, .int v1), (2, .int v2)] → k7 σ v2 = some σr → W p l e ({ frames := 2, cells := 0, slots := 0, locals := 43 } : Room) s m args below meth c H locs 0 0 (MQ below (gQv X σr) args s 0 0 (gA X)) (F0 m 7 ls [])) :
    ∀ (k : Nat) (σ : GM) (v4 : Int32) (H : Heap) (locs : List Loc) (ls : Array Slot), gI X σ s H locs → lv_has ls 5 [(0, .ref (X.2.1 + 49)), (1, .int v1), (2, .int v2), (3, .int v3), (4, .int v4)] → f_X8_learnRings_L33 k7 v1 v2 v3 k σ v4 = some σr →
    W p l e ({ frames := 2, cells := 0, slots := 0, locals := 43 } : Room) s m args below meth c H locs 0 0 (MQ below (gQv X σr) args s 0 0 (gA X)) (F0 m 33 ls []) := by
  intro k
  induction k with
  | zero =>
    intro σ v4 H locs ls hI hl h
    exact absurd h (by simp [f_X8_learnRings_L33])
  | succ k ih =>
    intro σ v4 H locs ls hI hl h
    unfold f_X8_learnRings_L33 at h
    refine lv_iload Γ.1.1 Γ.1.2.1 dX8_learnRings_33 (lv_at hl 4 rfl) ?_
    refine lv_iload_n Γ.1.1 Γ.1.2.1 dX8_learnRings_35 rfl (lv_at hl 1 rfl) ?_
    refine lv_icmp_gt (tgt := 101) Γ.1.1 Γ.1.2.1 dX8_learnRings_36 (by decide) (fun c_6 => ?_) (fun c_6 => ?_)
    · replace h := ite_pos c_6 h; clear c_6
      obtain ⟨v2_7, e_v2_7, h⟩ := nm_some h
      refine lv_iinc (v := v2_7) (lv' := [(2, .int v2_7), (0, .ref (X.2.1 + 49)), (1, .int v1), (3, .int v3), (4, .int v4)]) Γ.1.1 Γ.1.2.1 dX8_learnRings_101 hl (k := 2) rfl (by rw [e_v2_7]; rfl) (by decide) rfl (fun ls hl => ?_)
      clear e_v2_7
      refine lv_goto (tgt := 7) Γ.1.1 Γ.1.2.1 dX8_learnRings_104 (by decide) ?_
      exact hk7 σ v2_7 _ _ _ hI (lv_sub hl [1, 2, 0] rfl) h
    · replace h := ite_neg c_6 h; clear c_6
      refine lv_iload Γ.1.1 Γ.1.2.1 dX8_learnRings_39 (lv_at hl 4 rfl) ?_
      refine lv_iload_n Γ.1.1 Γ.1.2.1 dX8_learnRings_41 rfl (lv_at hl 1 rfl) ?_
      refine lv_iconst (v := (-1 : Int32)) Γ.1.1 Γ.1.2.1 dX8_learnRings_42 (by decide) ?_
      refine lv_ixor Γ.1.1 Γ.1.2.1 dX8_learnRings_43 ?_
      refine lv_iand Γ.1.1 Γ.1.2.1 dX8_learnRings_44 ?_
      refine lv_if_ne (tgt := 90) Γ.1.1 Γ.1.2.1 dX8_learnRings_45 (by decide) (fun c_8 => ?_) (fun c_8 => ?_)
      · replace h := ite_neg c_8 h; clear c_8
        exact s_X8_learnRings_L90 σr Γ v1 v2 v3 _ hk7 _ ih σ v4 _ _ _ hI hl h
      · replace h := ite_pos c_8 h; clear c_8
        refine lv_aload_n Γ.1.1 Γ.1.2.1 dX8_learnRings_48 rfl (lv_at hl 0 rfl) ?_
        refine lv_iload Γ.1.1 Γ.1.2.1 dX8_learnRings_49 (lv_at hl 4 rfl) ?_
        obtain ⟨r_10, hr_10, h⟩ := ob_some h
        refine g_ci Γ hI (g_runV (As := [.int v4]) Γ hI (S_X8_isLeastRing l X σ v4 r_10 hr_10) mf_X8_isLeastRing (recv_X8 Γ hI) gw_128 rfl rfl ⟨Nat.le_of_ble_eq_true rfl, Nat.le_of_ble_eq_true rfl⟩ rfl hl.1 rfl (Nat.le_of_ble_eq_true rfl) dX8_learnRings_51 ⟨Nat.zero_le _, Nat.zero_le _⟩) (fun H locs hI => ?_)
        clear hr_10
        refine lv_if_eq (tgt := 90) Γ.1.1 Γ.1.2.1 dX8_learnRings_54 (by decide) (fun c_12 => ?_) (fun c_12 => ?_)
        · replace h := ite_pos c_12 h; clear c_12
          exact s_X8_learnRings_L90 σr Γ v1 v2 v3 _ hk7 _ ih σ v4 _ _ _ hI hl h
        · replace h := ite_neg c_12 h; clear c_12
          refine lv_aload_n Γ.1.1 Γ.1.2.1 dX8_learnRings_57 rfl (lv_at hl 0 rfl) ?_
          refine get_X8_many Γ hI gw_28 dX8_learnRings_58 ?_
          refine lv_aload_n Γ.1.1 Γ.1.2.1 dX8_learnRings_61 rfl (lv_at hl 0 rfl) ?_
          refine get_X8_ringSets Γ hI gw_27 dX8_learnRings_62 ?_
          refine g_alen Γ hI sh_53 (by decide) (v := (924 : Int32)) (by decide) dX8_learnRings_65 ?_
          refine lv_icmp_ge (tgt := 90) Γ.1.1 Γ.1.2.1 dX8_learnRings_66 (by decide) (fun c_13 => ?_) (fun c_13 => ?_)
          · replace h := ite_pos c_13 h; clear c_13
            exact s_X8_learnRings_L90 σr Γ v1 v2 v3 _ hk7 _ ih σ v4 _ _ _ hI hl h
          · replace h := ite_neg c_13 h; clear c_13
            refine lv_aload_n Γ.1.1 Γ.1.2.1 dX8_learnRings_69 rfl (lv_at hl 0 rfl) ?_
            refine get_X8_ringSets Γ hI gw_27 dX8_learnRings_70 ?_
            refine lv_aload_n Γ.1.1 Γ.1.2.1 dX8_learnRings_73 rfl (lv_at hl 0 rfl) ?_
            refine get_X8_many Γ hI gw_28 dX8_learnRings_74 ?_
            refine lv_iload Γ.1.1 Γ.1.2.1 dX8_learnRings_77 (lv_at hl 4 rfl) ?_
            obtain ⟨hb_14, h⟩ := bnd_some h
            refine g_iast Γ hI sh_53 hb_14 dX8_learnRings_79 (fun H locs hI => ?_)
            obtain ⟨σ_15, e_m_15, h⟩ := nm_some h
            rw [← e_m_15] at hI; clear e_m_15
            refine lv_aload_n Γ.1.1 Γ.1.2.1 dX8_learnRings_80 rfl (lv_at hl 0 rfl) ?_
            refine lv_dup Γ.1.1 Γ.1.2.1 dX8_learnRings_81 rfl ?_
            refine get_X8_many Γ hI gw_28 dX8_learnRings_82 ?_
            refine lv_iconst (v := (1 : Int32)) Γ.1.1 Γ.1.2.1 dX8_learnRings_85 (by decide) ?_
            refine lv_iadd Γ.1.1 Γ.1.2.1 dX8_learnRings_86 ?_
            refine put_X8_many Γ hI gw_28 dX8_learnRings_87 (fun H locs hI => ?_)
            obtain ⟨σ_16, e_m_16, h⟩ := nm_some h
            rw [← e_m_16] at hI; clear e_m_16
            exact s_X8_learnRings_L90 σr Γ v1 v2 v3 _ hk7 _ ih σ_16 v4 _ _ _ hI hl h
set_option maxRecDepth 20000 in
set_option maxHeartbeats 4000000 in
theorem s_X8_learnRings_L7 {p : Program} {l : Launch} {e : Env} {s : State} {m : MethodId} {args : Array Value} {below : List Frame} {meth : Method} {c : Code} {X : GX} (σr : GM) (Γ : gC X p m meth c cX8_learnRings 5 s args RX8 none) (v1 : Int32) :
    ∀ (k : Nat) (σ : GM) (v2 : Int32) (H : Heap) (locs : List Loc) (ls : Array Slot), gI X σ s H locs → lv_has ls 5 [(0, .ref (X.2.1 + 49)), (1, .int v1), (2, .int v2)] → f_X8_learnRings_L7 v1 k σ v2 = some σr →
    W p l e ({ frames := 2, cells := 0, slots := 0, locals := 43 } : Room) s m args below meth c H locs 0 0 (MQ below (gQv X σr) args s 0 0 (gA X)) (F0 m 7 ls []) := by
  intro k
  induction k with
  | zero =>
    intro σ v2 H locs ls hI hl h
    exact absurd h (by simp [f_X8_learnRings_L7])
  | succ k ih =>
    intro σ v2 H locs ls hI hl h
    unfold f_X8_learnRings_L7 at h
    refine lv_iload_n Γ.1.1 Γ.1.2.1 dX8_learnRings_7 rfl (lv_at hl 2 rfl) ?_
    refine lv_aload_n Γ.1.1 Γ.1.2.1 dX8_learnRings_8 rfl (lv_at hl 0 rfl) ?_
    refine get_X8_starts Γ hI gw_127 dX8_learnRings_9 ?_
    refine g_alen Γ hI sh_54 (by decide) (v := (12 : Int32)) (by decide) dX8_learnRings_12 ?_
    refine lv_icmp_ge (tgt := 107) Γ.1.1 Γ.1.2.1 dX8_learnRings_13 (by decide) (fun c_2 => ?_) (fun c_2 => ?_)
    · replace h := ite_pos c_2 h; clear c_2
      exact g_vret Γ hI dX8_learnRings_107 (Option.some.inj h)
    · replace h := ite_neg c_2 h; clear c_2
      refine lv_aload_n Γ.1.1 Γ.1.2.1 dX8_learnRings_16 rfl (lv_at hl 0 rfl) ?_
      refine get_X8_starts Γ hI gw_127 dX8_learnRings_17 ?_
      refine lv_iload_n Γ.1.1 Γ.1.2.1 dX8_learnRings_20 rfl (lv_at hl 2 rfl) ?_
      refine lv_aload_n Γ.1.1 Γ.1.2.1 dX8_learnRings_21 rfl (lv_at hl 0 rfl) ?_
      refine get_X8_many Γ hI gw_28 dX8_learnRings_22 ?_
      obtain ⟨hb_3, h⟩ := bnd_some h
      refine g_iast Γ hI sh_54 hb_3 dX8_learnRings_25 (fun H locs hI => ?_)
      obtain ⟨σ_4, e_m_4, h⟩ := nm_some h
      rw [← e_m_4] at hI; clear e_m_4
      refine lv_iconst (v := (1 : Int32)) Γ.1.1 Γ.1.2.1 dX8_learnRings_26 (by decide) ?_
      refine lv_iload_n Γ.1.1 Γ.1.2.1 dX8_learnRings_27 rfl (lv_at hl 2 rfl) ?_
      refine lv_ishl Γ.1.1 Γ.1.2.1 dX8_learnRings_28 ?_
      refine lv_topi (fun v3_5 e_v3_5 => ?_)
      replace h := nm_at e_v3_5 h; clear e_v3_5
      refine lv_istore_n (lv' := [(3, .int v3_5), (0, .ref (X.2.1 + 49)), (1, .int v1), (2, .int v2)]) Γ.1.1 Γ.1.2.1 dX8_learnRings_29 rfl hl (by decide) rfl (fun ls hl => ?_)
      refine lv_iload_n Γ.1.1 Γ.1.2.1 dX8_learnRings_30 rfl (lv_at hl 0 rfl) ?_
      refine lv_istore (lv' := [(4, .int v3_5), (3, .int v3_5), (0, .ref (X.2.1 + 49)), (1, .int v1), (2, .int v2)]) Γ.1.1 Γ.1.2.1 dX8_learnRings_31 hl (by decide) rfl (fun ls hl => ?_)
      exact s_X8_learnRings_L33 σr Γ v1 v2 v3_5 _ ih _ σ_4 v3_5 _ _ _ hI (lv_sub hl [2, 3, 4, 1, 0] rfl) h
set_option maxRecDepth 20000 in
set_option maxHeartbeats 4000000 in
theorem S_X8_learnRings (l : Launch) (X : GX) (σ : GM) (v1 : Int32) (σr : GM) (h : f_X8_learnRings σ v1 = some σr) : gMet l yX8_learnRings cX8_learnRings 5 none ({ frames := 2, cells := 0, slots := 0, locals := 43 } : Room) X σ [.ref (X.2.1 + 49), .int v1] (gQv X σr) := by
  unfold f_X8_learnRings at h
  refine gMet_of (lv := [(0, .ref (X.2.1 + 49)), (1, .int v1)]) (by decide) rfl (Nat.le_of_ble_eq_true rfl) rfl (fun p e s m below meth c H ls Γ hI hl => ?_)
  refine lv_aload_n Γ.1.1 Γ.1.2.1 dX8_learnRings_0 rfl (lv_at hl 0 rfl) ?_
  refine lv_iconst (v := (0 : Int32)) Γ.1.1 Γ.1.2.1 dX8_learnRings_1 (by decide) ?_
  refine put_X8_many Γ hI gw_28 dX8_learnRings_2 (fun H locs hI => ?_)
  obtain ⟨σ_1, e_m_1, h⟩ := nm_some h
  rw [← e_m_1] at hI; clear e_m_1
  refine lv_iconst (v := (0 : Int32)) Γ.1.1 Γ.1.2.1 dX8_learnRings_5 (by decide) ?_
  refine lv_istore_n (lv' := [(2, .int (0 : Int32)), (0, .ref (X.2.1 + 49)), (1, .int v1)]) Γ.1.1 Γ.1.2.1 dX8_learnRings_6 rfl hl (by decide) rfl (fun ls hl => ?_)
  exact s_X8_learnRings_L7 σr Γ v1 _ σ_1 (0 : Int32) _ _ _ hI (lv_sub hl [1, 2, 0] rfl) h
set_option maxRecDepth 20000 in
set_option maxHeartbeats 4000000 in
theorem s_X8_learn_L137 {p : Program} {l : Launch} {e : Env} {s : State} {m : MethodId} {args : Array Value} {below : List Frame} {meth : Method} {c : Code} {X : GX} (σr : GM) (Γ : gC X p m meth c cX8_learn 4 s args RX8 none) :
    ∀ (σ : GM) (H : Heap) (locs : List Loc) (ls : Array Slot), gI X σ s H locs → lv_has ls 4 [(0, .ref (X.2.1 + 49)), (1, .ref (X.2.1 + 8))] → f_X8_learn_L137 σ = some σr →
    W p l e ({ frames := 3, cells := 0, slots := 0, locals := 67 } : Room) s m args below meth c H locs 0 0 (MQ below (gQv X σr) args s 0 0 (gA X)) (F0 m 137 ls []) := by
  intro σ H locs ls hI hl h
  unfold f_X8_learn_L137 at h
  refine lv_aload_n Γ.1.1 Γ.1.2.1 dX8_learn_137 rfl (lv_at hl 0 rfl) ?_
  refine lv_aload_n Γ.1.1 Γ.1.2.1 dX8_learn_138 rfl (lv_at hl 1 rfl) ?_
  refine get_X3_there sh_8 Γ hI gw_129 dX8_learn_139 ?_
  obtain ⟨σ_4, hr_3, h⟩ := ob_some h
  refine g_cv Γ hI (g_runV (As := [.int (σ.1 8 3)]) Γ hI (S_X8_learnRings l X σ (σ.1 8 3) σ_4 hr_3) mf_X8_learnRings (recv_X8 Γ hI) gw_130 rfl rfl ⟨Nat.le_of_ble_eq_true rfl, Nat.le_of_ble_eq_true rfl⟩ rfl hl.1 rfl (Nat.le_of_ble_eq_true rfl) dX8_learn_142 ⟨Nat.zero_le _, Nat.zero_le _⟩) (fun H locs hI => ?_)
  clear hr_3
  exact g_vret Γ hI dX8_learn_145 (Option.some.inj h)
set_option maxRecDepth 20000 in
set_option maxHeartbeats 4000000 in
theorem s_X8_learn_L71 {p : Program} {l : Launch} {e : Env} {s : State} {m : MethodId} {args : Array Value} {below : List Frame} {meth : Method} {c : Code} {X : GX} (σr : GM) (Γ : gC X p m meth c cX8_learn 4 s args RX8 none) :
    ∀ (k : Nat) (σ : GM) (v2 : Int32) (H : Heap) (locs : List Loc) (ls : Array Slot), gI X σ s H locs → lv_has ls 4 [(0, .ref (X.2.1 + 49)), (1, .ref (X.2.1 + 8)), (2, .int v2)] → f_X8_learn_L71 k σ v2 = some σr →
    W p l e ({ frames := 3, cells := 0, slots := 0, locals := 67 } : Room) s m args below meth c H locs 0 0 (MQ below (gQv X σr) args s 0 0 (gA X)) (F0 m 71 ls []) := by
  intro k
  induction k with
  | zero =>
    intro σ v2 H locs ls hI hl h
    exact absurd h (by simp [f_X8_learn_L71])
  | succ k ih =>
    intro σ v2 H locs ls hI hl h
    unfold f_X8_learn_L71 at h
    refine lv_iload_n Γ.1.1 Γ.1.2.1 dX8_learn_71 rfl (lv_at hl 2 rfl) ?_
    refine lv_aload_n Γ.1.1 Γ.1.2.1 dX8_learn_72 rfl (lv_at hl 1 rfl) ?_
    refine get_X3_there sh_8 Γ hI gw_129 dX8_learn_73 ?_
    refine lv_icmp_gt (tgt := 137) Γ.1.1 Γ.1.2.1 dX8_learn_76 (by decide) (fun c_2 => ?_) (fun c_2 => ?_)
    · replace h := ite_pos c_2 h; clear c_2
      exact s_X8_learn_L137 σr Γ σ _ _ _ hI (lv_sub hl [0, 1] rfl) h
    · replace h := ite_neg c_2 h; clear c_2
      refine lv_iload_n Γ.1.1 Γ.1.2.1 dX8_learn_79 rfl (lv_at hl 2 rfl) ?_
      refine lv_aload_n Γ.1.1 Γ.1.2.1 dX8_learn_80 rfl (lv_at hl 0 rfl) ?_
      refine get_X8_free Γ hI gw_40 dX8_learn_81 ?_
      refine g_alen Γ hI sh_50 (by decide) (v := (4096 : Int32)) (by decide) dX8_learn_84 ?_
      refine lv_icmp_ge (tgt := 137) Γ.1.1 Γ.1.2.1 dX8_learn_85 (by decide) (fun c_5 => ?_) (fun c_5 => ?_)
      · replace h := ite_pos c_5 h; clear c_5
        exact s_X8_learn_L137 σr Γ σ _ _ _ hI (lv_sub hl [0, 1] rfl) h
      · replace h := ite_neg c_5 h; clear c_5
        refine lv_aload_n Γ.1.1 Γ.1.2.1 dX8_learn_88 rfl (lv_at hl 1 rfl) ?_
        refine lv_iload_n Γ.1.1 Γ.1.2.1 dX8_learn_89 rfl (lv_at hl 2 rfl) ?_
        obtain ⟨r_6, hr_6, h⟩ := ob_some h
        refine g_ci Γ hI (g_runV (As := [.int v2]) Γ hI (S_X3_areThere l X σ 8 sh_8 v2 r_6 hr_6) mf_X3_areThere (recv_X3 sh_8 Γ hI) gw_131 rfl rfl ⟨Nat.le_of_ble_eq_true rfl, Nat.le_of_ble_eq_true rfl⟩ rfl hl.1 rfl (Nat.le_of_ble_eq_true rfl) dX8_learn_90 ⟨Nat.zero_le _, Nat.zero_le _⟩) (fun H locs hI => ?_)
        clear hr_6
        refine lv_if_eq (tgt := 131) Γ.1.1 Γ.1.2.1 dX8_learn_93 (by decide) (fun c_8 => ?_) (fun c_8 => ?_)
        · replace h := ite_pos c_8 h; clear c_8
          obtain ⟨v2_9, e_v2_9, h⟩ := nm_some h
          refine lv_iinc (v := v2_9) (lv' := [(2, .int v2_9), (0, .ref (X.2.1 + 49)), (1, .ref (X.2.1 + 8))]) Γ.1.1 Γ.1.2.1 dX8_learn_131 hl (k := 2) rfl (by rw [e_v2_9]; rfl) (by decide) rfl (fun ls hl => ?_)
          clear e_v2_9
          refine lv_goto (tgt := 71) Γ.1.1 Γ.1.2.1 dX8_learn_134 (by decide) ?_
          exact ih σ v2_9 _ _ _ hI (lv_sub hl [1, 2, 0] rfl) h
        · replace h := ite_neg c_8 h; clear c_8
          refine lv_aload_n Γ.1.1 Γ.1.2.1 dX8_learn_96 rfl (lv_at hl 0 rfl) ?_
          refine get_X8_free Γ hI gw_40 dX8_learn_97 ?_
          refine lv_iload_n Γ.1.1 Γ.1.2.1 dX8_learn_100 rfl (lv_at hl 2 rfl) ?_
          refine lv_iload_n Γ.1.1 Γ.1.2.1 dX8_learn_101 rfl (lv_at hl 2 rfl) ?_
          refine lv_if_eq (tgt := 125) Γ.1.1 Γ.1.2.1 dX8_learn_102 (by decide) (fun c_10 => ?_) (fun c_10 => ?_)
          · replace h := ite_pos c_10 h; clear c_10
            refine lv_iconst (v := (1 : Int32)) Γ.1.1 Γ.1.2.1 dX8_learn_125 (by decide) ?_
            refine lv_goto (tgt := 130) Γ.1.1 Γ.1.2.1 dX8_learn_126 (by decide) ?_
            obtain ⟨hb_11, h⟩ := bnd_some h
            refine g_zast Γ hI sh_50 hb_11 dX8_learn_130 (fun H locs hI => ?_)
            obtain ⟨σ_12, e_m_12, h⟩ := nm_some h
            rw [← e_m_12] at hI; clear e_m_12
            obtain ⟨v2_13, e_v2_13, h⟩ := nm_some h
            refine lv_iinc (v := v2_13) (lv' := [(2, .int v2_13), (0, .ref (X.2.1 + 49)), (1, .ref (X.2.1 + 8))]) Γ.1.1 Γ.1.2.1 dX8_learn_131 hl (k := 2) rfl (by rw [e_v2_13]; rfl) (by decide) rfl (fun ls hl => ?_)
            clear e_v2_13
            refine lv_goto (tgt := 71) Γ.1.1 Γ.1.2.1 dX8_learn_134 (by decide) ?_
            exact ih σ_12 v2_13 _ _ _ hI (lv_sub hl [1, 2, 0] rfl) h
          · replace h := ite_neg c_10 h; clear c_10
            refine lv_aload_n Γ.1.1 Γ.1.2.1 dX8_learn_105 rfl (lv_at hl 0 rfl) ?_
            refine lv_iload_n Γ.1.1 Γ.1.2.1 dX8_learn_106 rfl (lv_at hl 2 rfl) ?_
            refine lv_iload_n Γ.1.1 Γ.1.2.1 dX8_learn_107 rfl (lv_at hl 2 rfl) ?_
            refine lv_iconst (v := (1 : Int32)) Γ.1.1 Γ.1.2.1 dX8_learn_108 (by decide) ?_
            refine lv_isub Γ.1.1 Γ.1.2.1 dX8_learn_109 ?_
            refine lv_iand Γ.1.1 Γ.1.2.1 dX8_learn_110 ?_
            obtain ⟨r_14, hr_14, h⟩ := ob_some h
            refine g_ci Γ hI (g_runV (As := [.int (v2 &&& (v2 - (1 : Int32)))]) Γ hI (S_X8_isFree l X σ (v2 &&& (v2 - (1 : Int32))) r_14 hr_14) mf_X8_isFree (recv_X8 Γ hI) gw_126 rfl rfl ⟨Nat.le_of_ble_eq_true rfl, Nat.le_of_ble_eq_true rfl⟩ rfl hl.1 rfl (Nat.le_of_ble_eq_true rfl) dX8_learn_111 ⟨Nat.zero_le _, Nat.zero_le _⟩) (fun H locs hI => ?_)
            clear hr_14
            refine lv_if_eq (tgt := 129) Γ.1.1 Γ.1.2.1 dX8_learn_114 (by decide) (fun c_16 => ?_) (fun c_16 => ?_)
            · replace h := ite_pos c_16 h; clear c_16
              refine lv_iconst (v := (0 : Int32)) Γ.1.1 Γ.1.2.1 dX8_learn_129 (by decide) ?_
              obtain ⟨hb_17, h⟩ := bnd_some h
              refine g_zast Γ hI sh_50 hb_17 dX8_learn_130 (fun H locs hI => ?_)
              obtain ⟨σ_18, e_m_18, h⟩ := nm_some h
              rw [← e_m_18] at hI; clear e_m_18
              obtain ⟨v2_19, e_v2_19, h⟩ := nm_some h
              refine lv_iinc (v := v2_19) (lv' := [(2, .int v2_19), (0, .ref (X.2.1 + 49)), (1, .ref (X.2.1 + 8))]) Γ.1.1 Γ.1.2.1 dX8_learn_131 hl (k := 2) rfl (by rw [e_v2_19]; rfl) (by decide) rfl (fun ls hl => ?_)
              clear e_v2_19
              refine lv_goto (tgt := 71) Γ.1.1 Γ.1.2.1 dX8_learn_134 (by decide) ?_
              exact ih σ_18 v2_19 _ _ _ hI (lv_sub hl [1, 2, 0] rfl) h
            · replace h := ite_neg c_16 h; clear c_16
              refine lv_aload_n Γ.1.1 Γ.1.2.1 dX8_learn_117 rfl (lv_at hl 0 rfl) ?_
              refine lv_iload_n Γ.1.1 Γ.1.2.1 dX8_learn_118 rfl (lv_at hl 2 rfl) ?_
              obtain ⟨r_20, hr_20, h⟩ := ob_some h
              refine g_ci Γ hI (g_runV (As := [.int v2]) Γ hI (S_X8_isFreeByTip l X σ v2 r_20 hr_20) mf_X8_isFreeByTip (recv_X8 Γ hI) gw_132 rfl rfl ⟨Nat.le_of_ble_eq_true rfl, Nat.le_of_ble_eq_true rfl⟩ rfl hl.1 rfl (Nat.le_of_ble_eq_true rfl) dX8_learn_119 ⟨Nat.zero_le _, Nat.zero_le _⟩) (fun H locs hI => ?_)
              clear hr_20
              refine lv_if_eq (tgt := 129) Γ.1.1 Γ.1.2.1 dX8_learn_122 (by decide) (fun c_22 => ?_) (fun c_22 => ?_)
              · replace h := ite_pos c_22 h; clear c_22
                refine lv_iconst (v := (0 : Int32)) Γ.1.1 Γ.1.2.1 dX8_learn_129 (by decide) ?_
                obtain ⟨hb_23, h⟩ := bnd_some h
                refine g_zast Γ hI sh_50 hb_23 dX8_learn_130 (fun H locs hI => ?_)
                obtain ⟨σ_24, e_m_24, h⟩ := nm_some h
                rw [← e_m_24] at hI; clear e_m_24
                obtain ⟨v2_25, e_v2_25, h⟩ := nm_some h
                refine lv_iinc (v := v2_25) (lv' := [(2, .int v2_25), (0, .ref (X.2.1 + 49)), (1, .ref (X.2.1 + 8))]) Γ.1.1 Γ.1.2.1 dX8_learn_131 hl (k := 2) rfl (by rw [e_v2_25]; rfl) (by decide) rfl (fun ls hl => ?_)
                clear e_v2_25
                refine lv_goto (tgt := 71) Γ.1.1 Γ.1.2.1 dX8_learn_134 (by decide) ?_
                exact ih σ_24 v2_25 _ _ _ hI (lv_sub hl [1, 2, 0] rfl) h
              · replace h := ite_neg c_22 h; clear c_22
                refine lv_iconst (v := (1 : Int32)) Γ.1.1 Γ.1.2.1 dX8_learn_125 (by decide) ?_
                refine lv_goto (tgt := 130) Γ.1.1 Γ.1.2.1 dX8_learn_126 (by decide) ?_
                obtain ⟨hb_26, h⟩ := bnd_some h
                refine g_zast Γ hI sh_50 hb_26 dX8_learn_130 (fun H locs hI => ?_)
                obtain ⟨σ_27, e_m_27, h⟩ := nm_some h
                rw [← e_m_27] at hI; clear e_m_27
                obtain ⟨v2_28, e_v2_28, h⟩ := nm_some h
                refine lv_iinc (v := v2_28) (lv' := [(2, .int v2_28), (0, .ref (X.2.1 + 49)), (1, .ref (X.2.1 + 8))]) Γ.1.1 Γ.1.2.1 dX8_learn_131 hl (k := 2) rfl (by rw [e_v2_28]; rfl) (by decide) rfl (fun ls hl => ?_)
                clear e_v2_28
                refine lv_goto (tgt := 71) Γ.1.1 Γ.1.2.1 dX8_learn_134 (by decide) ?_
                exact ih σ_27 v2_28 _ _ _ hI (lv_sub hl [1, 2, 0] rfl) h
set_option maxRecDepth 20000 in
set_option maxHeartbeats 4000000 in
theorem s_X8_learn_L36 {p : Program} {l : Launch} {e : Env} {s : State} {m : MethodId} {args : Array Value} {below : List Frame} {meth : Method} {c : Code} {X : GX} (σr : GM) (Γ : gC X p m meth c cX8_learn 4 s args RX8 none) (k2 : GM → Int32 → Option GM) (hk2 : ∀ (σ : GM) (v2 : Int32) (H : Heap) (locs : List Loc) (ls : Array Slot), gI X σ s H locs → lv_has ls 4 [(0, .ref (X.2.1 + 49)), (1, .ref (X.2.1 + 8)), (2, .int v2)] → k2 σ v2 = some σr → W p l e ({ frames := 3, cells := 0, slots := 0, locals := 67 } : Room) s m args below meth c H locs 0 0 (MQ below (gQv X σr) args s 0 0 (gA X)) (F0 m 2 ls [])) :
    ∀ (σ : GM) (v2 : Int32) (s0 : Int32) (H : Heap) (locs : List Loc) (ls : Array Slot), gI X σ s H locs → lv_has ls 4 [(0, .ref (X.2.1 + 49)), (1, .ref (X.2.1 + 8)), (2, .int v2)] → f_X8_learn_L36 k2 σ v2 s0 = some σr →
    W p l e ({ frames := 3, cells := 0, slots := 0, locals := 67 } : Room) s m args below meth c H locs 0 0 (MQ below (gQv X σr) args s 0 0 (gA X)) (F0 m 36 ls [.int s0]) := by
  intro σ v2 s0 H locs ls hI hl h
  unfold f_X8_learn_L36 at h
  refine lv_istore_n (lv' := [(3, .int s0), (0, .ref (X.2.1 + 49)), (1, .ref (X.2.1 + 8)), (2, .int v2)]) Γ.1.1 Γ.1.2.1 dX8_learn_36 rfl hl (by decide) rfl (fun ls hl => ?_)
  refine lv_aload_n Γ.1.1 Γ.1.2.1 dX8_learn_37 rfl (lv_at hl 1 rfl) ?_
  refine get_X8_beside Γ hI gw_123 dX8_learn_38 ?_
  refine lv_iload_n Γ.1.1 Γ.1.2.1 dX8_learn_41 rfl (lv_at hl 3 rfl) ?_
  refine lv_aload_n Γ.1.1 Γ.1.2.1 dX8_learn_42 rfl (lv_at hl 2 rfl) ?_
  refine lv_iload_n Γ.1.1 Γ.1.2.1 dX8_learn_43 rfl (lv_at hl 3 rfl) ?_
  refine lv_iconst (v := (1 : Int32)) Γ.1.1 Γ.1.2.1 dX8_learn_44 (by decide) ?_
  obtain ⟨r_33, hr_33, h⟩ := ob_some h
  refine g_ci Γ hI (g_runV (As := [.int v2, .int (1 : Int32)]) Γ hI (S_X3_besides l X σ 8 sh_8 v2 (1 : Int32) r_33 hr_33) mf_X3_besides (recv_X3 sh_8 Γ hI) gw_134 rfl rfl ⟨Nat.le_of_ble_eq_true rfl, Nat.le_of_ble_eq_true rfl⟩ rfl hl.1 rfl (Nat.le_of_ble_eq_true rfl) dX8_learn_45 ⟨Nat.zero_le _, Nat.zero_le _⟩) (fun H locs hI => ?_)
  clear hr_33
  obtain ⟨hb_35, h⟩ := bnd_some h
  refine g_iast Γ hI sh_51 hb_35 dX8_learn_48 (fun H locs hI => ?_)
  obtain ⟨σ_36, e_m_36, h⟩ := nm_some h
  rw [← e_m_36] at hI; clear e_m_36
  refine lv_aload_n Γ.1.1 Γ.1.2.1 dX8_learn_49 rfl (lv_at hl 1 rfl) ?_
  refine get_X8_doubled Γ hI gw_124 dX8_learn_50 ?_
  refine lv_iload_n Γ.1.1 Γ.1.2.1 dX8_learn_53 rfl (lv_at hl 3 rfl) ?_
  refine lv_aload_n Γ.1.1 Γ.1.2.1 dX8_learn_54 rfl (lv_at hl 2 rfl) ?_
  refine lv_iload_n Γ.1.1 Γ.1.2.1 dX8_learn_55 rfl (lv_at hl 3 rfl) ?_
  refine lv_iconst (v := (2 : Int32)) Γ.1.1 Γ.1.2.1 dX8_learn_56 (by decide) ?_
  obtain ⟨r_37, hr_37, h⟩ := ob_some h
  refine g_ci Γ hI (g_runV (As := [.int v2, .int (2 : Int32)]) Γ hI (S_X3_besides l X σ_36 8 sh_8 v2 (2 : Int32) r_37 hr_37) mf_X3_besides (recv_X3 sh_8 Γ hI) gw_134 rfl rfl ⟨Nat.le_of_ble_eq_true rfl, Nat.le_of_ble_eq_true rfl⟩ rfl hl.1 rfl (Nat.le_of_ble_eq_true rfl) dX8_learn_57 ⟨Nat.zero_le _, Nat.zero_le _⟩) (fun H locs hI => ?_)
  clear hr_37
  refine lv_iload_n Γ.1.1 Γ.1.2.1 dX8_learn_60 rfl (lv_at hl 0 rfl) ?_
  refine lv_ior Γ.1.1 Γ.1.2.1 dX8_learn_61 ?_
  obtain ⟨hb_39, h⟩ := bnd_some h
  refine g_iast Γ hI sh_52 hb_39 dX8_learn_62 (fun H locs hI => ?_)
  obtain ⟨σ_40, e_m_40, h⟩ := nm_some h
  rw [← e_m_40] at hI; clear e_m_40
  obtain ⟨v2_41, e_v2_41, h⟩ := nm_some h
  refine lv_iinc (v := v2_41) (lv' := [(2, .int v2_41), (3, .int s0), (0, .ref (X.2.1 + 49)), (1, .ref (X.2.1 + 8))]) Γ.1.1 Γ.1.2.1 dX8_learn_63 hl (k := 3) rfl (by rw [e_v2_41]; rfl) (by decide) rfl (fun ls hl => ?_)
  clear e_v2_41
  refine lv_goto (tgt := 2) Γ.1.1 Γ.1.2.1 dX8_learn_66 (by decide) ?_
  exact hk2 σ_40 v2_41 _ _ _ hI (lv_sub hl [2, 3, 0] rfl) h
set_option maxRecDepth 20000 in
set_option maxHeartbeats 4000000 in
theorem s_X8_learn_L2 {p : Program} {l : Launch} {e : Env} {s : State} {m : MethodId} {args : Array Value} {below : List Frame} {meth : Method} {c : Code} {X : GX} (σr : GM) (Γ : gC X p m meth c cX8_learn 4 s args RX8 none) :
    ∀ (k : Nat) (σ : GM) (v2 : Int32) (H : Heap) (locs : List Loc) (ls : Array Slot), gI X σ s H locs → lv_has ls 4 [(0, .ref (X.2.1 + 49)), (1, .ref (X.2.1 + 8)), (2, .int v2)] → f_X8_learn_L2 k σ v2 = some σr →
    W p l e ({ frames := 3, cells := 0, slots := 0, locals := 67 } : Room) s m args below meth c H locs 0 0 (MQ below (gQv X σr) args s 0 0 (gA X)) (F0 m 2 ls []) := by
  intro k
  induction k with
  | zero =>
    intro σ v2 H locs ls hI hl h
    exact absurd h (by simp [f_X8_learn_L2])
  | succ k ih =>
    intro σ v2 H locs ls hI hl h
    unfold f_X8_learn_L2 at h
    refine lv_iload_n Γ.1.1 Γ.1.2.1 dX8_learn_2 rfl (lv_at hl 2 rfl) ?_
    refine lv_aload_n Γ.1.1 Γ.1.2.1 dX8_learn_3 rfl (lv_at hl 0 rfl) ?_
    refine get_X8_beside Γ hI gw_123 dX8_learn_4 ?_
    refine g_alen Γ hI sh_51 (by decide) (v := (12 : Int32)) (by decide) dX8_learn_7 ?_
    refine lv_icmp_ge (tgt := 69) Γ.1.1 Γ.1.2.1 dX8_learn_8 (by decide) (fun c_1 => ?_) (fun c_1 => ?_)
    · replace h := ite_pos c_1 h; clear c_1
      refine lv_iconst (v := (0 : Int32)) Γ.1.1 Γ.1.2.1 dX8_learn_69 (by decide) ?_
      refine lv_istore_n (lv' := [(2, .int (0 : Int32)), (0, .ref (X.2.1 + 49)), (1, .ref (X.2.1 + 8))]) Γ.1.1 Γ.1.2.1 dX8_learn_70 rfl hl (by decide) rfl (fun ls hl => ?_)
      exact s_X8_learn_L71 σr Γ _ σ (0 : Int32) _ _ _ hI (lv_sub hl [1, 2, 0] rfl) h
    · replace h := ite_neg c_1 h; clear c_1
      refine lv_iload_n Γ.1.1 Γ.1.2.1 dX8_learn_11 rfl (lv_at hl 2 rfl) ?_
      refine lv_aload_n Γ.1.1 Γ.1.2.1 dX8_learn_12 rfl (lv_at hl 0 rfl) ?_
      refine get_X8_doubled Γ hI gw_124 dX8_learn_13 ?_
      refine g_alen Γ hI sh_52 (by decide) (v := (12 : Int32)) (by decide) dX8_learn_16 ?_
      refine lv_icmp_ge (tgt := 69) Γ.1.1 Γ.1.2.1 dX8_learn_17 (by decide) (fun c_29 => ?_) (fun c_29 => ?_)
      · replace h := ite_pos c_29 h; clear c_29
        refine lv_iconst (v := (0 : Int32)) Γ.1.1 Γ.1.2.1 dX8_learn_69 (by decide) ?_
        refine lv_istore_n (lv' := [(2, .int (0 : Int32)), (0, .ref (X.2.1 + 49)), (1, .ref (X.2.1 + 8))]) Γ.1.1 Γ.1.2.1 dX8_learn_70 rfl hl (by decide) rfl (fun ls hl => ?_)
        exact s_X8_learn_L71 σr Γ _ σ (0 : Int32) _ _ _ hI (lv_sub hl [1, 2, 0] rfl) h
      · replace h := ite_neg c_29 h; clear c_29
        refine lv_aload_n Γ.1.1 Γ.1.2.1 dX8_learn_20 rfl (lv_at hl 1 rfl) ?_
        refine lv_iload_n Γ.1.1 Γ.1.2.1 dX8_learn_21 rfl (lv_at hl 2 rfl) ?_
        refine lv_iload_n Γ.1.1 Γ.1.2.1 dX8_learn_22 rfl (lv_at hl 2 rfl) ?_
        obtain ⟨r_30, hr_30, h⟩ := ob_some h
        refine g_ci Γ hI (g_runV (As := [.int v2, .int v2]) Γ hI (S_X3_linesOf l X σ 8 sh_8 v2 v2 r_30 hr_30) mf_X3_linesOf (recv_X3 sh_8 Γ hI) gw_133 rfl rfl ⟨Nat.le_of_ble_eq_true rfl, Nat.le_of_ble_eq_true rfl⟩ rfl hl.1 rfl (Nat.le_of_ble_eq_true rfl) dX8_learn_23 ⟨Nat.zero_le _, Nat.zero_le _⟩) (fun H locs hI => ?_)
        clear hr_30
        refine lv_if_le (tgt := 35) Γ.1.1 Γ.1.2.1 dX8_learn_26 (by decide) (fun c_32 => ?_) (fun c_32 => ?_)
        · replace h := ite_pos c_32 h; clear c_32
          refine lv_iconst (v := (0 : Int32)) Γ.1.1 Γ.1.2.1 dX8_learn_35 (by decide) ?_
          exact s_X8_learn_L36 σr Γ _ ih σ v2 (0 : Int32) _ _ _ hI hl h
        · replace h := ite_neg c_32 h; clear c_32
          refine lv_iconst (v := (1 : Int32)) Γ.1.1 Γ.1.2.1 dX8_learn_29 (by decide) ?_
          refine lv_iload_n Γ.1.1 Γ.1.2.1 dX8_learn_30 rfl (lv_at hl 2 rfl) ?_
          refine lv_ishl Γ.1.1 Γ.1.2.1 dX8_learn_31 ?_
          refine lv_goto (tgt := 36) Γ.1.1 Γ.1.2.1 dX8_learn_32 (by decide) ?_
          exact s_X8_learn_L36 σr Γ _ ih σ v2 ((1 : Int32) <<< (v2 &&& 31)) _ _ _ hI hl h
set_option maxRecDepth 20000 in
set_option maxHeartbeats 4000000 in
theorem S_X8_learn (l : Launch) (X : GX) (σ : GM) (σr : GM) (h : f_X8_learn σ = some σr) : gMet l yX8_learn cX8_learn 4 none ({ frames := 3, cells := 0, slots := 0, locals := 67 } : Room) X σ [.ref (X.2.1 + 49), .ref (X.2.1 + 8)] (gQv X σr) := by
  unfold f_X8_learn at h
  refine gMet_of (lv := [(0, .ref (X.2.1 + 49)), (1, .ref (X.2.1 + 8))]) (by decide) rfl (Nat.le_of_ble_eq_true rfl) rfl (fun p e s m below meth c H ls Γ hI hl => ?_)
  refine lv_iconst (v := (0 : Int32)) Γ.1.1 Γ.1.2.1 dX8_learn_0 (by decide) ?_
  refine lv_istore_n (lv' := [(2, .int (0 : Int32)), (0, .ref (X.2.1 + 49)), (1, .ref (X.2.1 + 8))]) Γ.1.1 Γ.1.2.1 dX8_learn_1 rfl hl (by decide) rfl (fun ls hl => ?_)
  exact s_X8_learn_L2 σr Γ _ σ (0 : Int32) _ _ _ hI (lv_sub hl [1, 2, 0] rfl) h
set_option maxRecDepth 20000 in
set_option maxHeartbeats 4000000 in
theorem S_X11_ringsNow (l : Launch) (X : GX) (σ : GM) (σr : GM) (h : f_X11_ringsNow σ = some σr) : gMet l yX11_ringsNow cX11_ringsNow 1 (some (.object "RingCutters$Rings")) ({ frames := 4, cells := 0, slots := 0, locals := 90 } : Room) X σ [.ref (X.2.1 + 0)] (gQq X σr (some 49)) := by
  unfold f_X11_ringsNow at h
  refine gMet_of (lv := [(0, .ref (X.2.1 + 0))]) (by decide) rfl (Nat.le_of_ble_eq_true rfl) rfl (fun p e s m below meth c H ls Γ hI hl => ?_)
  refine lv_aload_n Γ.1.1 Γ.1.2.1 dX11_ringsNow_0 rfl (lv_at hl 0 rfl) ?_
  refine get_X11_ringsStale Γ hI gw_100 dX11_ringsNow_1 ?_
  refine lv_if_eq (tgt := 23) Γ.1.1 Γ.1.2.1 dX11_ringsNow_4 (by decide) (fun c_1 => ?_) (fun c_1 => ?_)
  · replace h := ite_pos c_1 h; clear c_1
    refine lv_aload_n Γ.1.1 Γ.1.2.1 dX11_ringsNow_23 rfl (lv_at hl 0 rfl) ?_
    refine get_X11_rings Γ hI gw_135 dX11_ringsNow_24 ?_
    exact g_aret (x := some 49) rfl Γ hI dX11_ringsNow_27 (Option.some.inj h) rfl
  · replace h := ite_neg c_1 h; clear c_1
    refine lv_aload_n Γ.1.1 Γ.1.2.1 dX11_ringsNow_7 rfl (lv_at hl 0 rfl) ?_
    refine get_X11_rings Γ hI gw_135 dX11_ringsNow_8 ?_
    refine lv_aload_n Γ.1.1 Γ.1.2.1 dX11_ringsNow_11 rfl (lv_at hl 0 rfl) ?_
    refine get_X11_net Γ hI gw_106 dX11_ringsNow_12 ?_
    obtain ⟨σ_3, hr_2, h⟩ := ob_some h
    refine g_cv Γ hI (g_runV (As := [.ref (X.2.1 + 8)]) Γ hI (S_X8_learn l X σ σ_3 hr_2) mf_X8_learn (recv_X8 Γ hI) gw_136 rfl rfl ⟨Nat.le_of_ble_eq_true rfl, Nat.le_of_ble_eq_true rfl⟩ rfl hl.1 rfl (Nat.le_of_ble_eq_true rfl) dX11_ringsNow_15 ⟨Nat.zero_le _, Nat.zero_le _⟩) (fun H locs hI => ?_)
    clear hr_2
    refine lv_aload_n Γ.1.1 Γ.1.2.1 dX11_ringsNow_18 rfl (lv_at hl 0 rfl) ?_
    refine lv_iconst (v := (0 : Int32)) Γ.1.1 Γ.1.2.1 dX11_ringsNow_19 (by decide) ?_
    refine put_X11_ringsStale Γ hI (by decide) (by decide) gw_100 dX11_ringsNow_20 (fun H locs hI => ?_)
    obtain ⟨σ_4, e_m_4, h⟩ := nm_some h
    rw [← e_m_4] at hI; clear e_m_4
    refine lv_aload_n Γ.1.1 Γ.1.2.1 dX11_ringsNow_23 rfl (lv_at hl 0 rfl) ?_
    refine get_X11_rings Γ hI gw_135 dX11_ringsNow_24 ?_
    exact g_aret (x := some 49) rfl Γ hI dX11_ringsNow_27 (Option.some.inj h) rfl
set_option maxRecDepth 20000 in
set_option maxHeartbeats 4000000 in
theorem S_X11_cuts (l : Launch) (X : GX) (σ : GM) (v1 : Int32) (σr : GM) (x : Int32) (h : f_X11_cuts σ v1 = some (σr, x)) : gMet l yX11_cuts cX11_cuts 2 (some .int) ({ frames := 5, cells := 0, slots := 0, locals := 110 } : Room) X σ [.ref (X.2.1 + 0), .int v1] (gQi X σr x) := by
  unfold f_X11_cuts at h
  refine gMet_of (lv := [(0, .ref (X.2.1 + 0)), (1, .int v1)]) (by decide) rfl (Nat.le_of_ble_eq_true rfl) rfl (fun p e s m below meth c H ls Γ hI hl => ?_)
  refine lv_aload_n Γ.1.1 Γ.1.2.1 dX11_cuts_0 rfl (lv_at hl 0 rfl) ?_
  refine get_X11_net Γ hI gw_106 dX11_cuts_1 ?_
  refine lv_iload_n Γ.1.1 Γ.1.2.1 dX11_cuts_4 rfl (lv_at hl 1 rfl) ?_
  obtain ⟨r_1, hr_1, h⟩ := ob_some h
  refine g_ci Γ hI (g_runV (As := [.int v1]) Γ hI (S_X3_areThere l X σ 8 sh_8 v1 r_1 hr_1) mf_X3_areThere (recv_X3 sh_8 Γ hI) gw_137 rfl rfl ⟨Nat.le_of_ble_eq_true rfl, Nat.le_of_ble_eq_true rfl⟩ rfl hl.1 rfl (Nat.le_of_ble_eq_true rfl) dX11_cuts_5 ⟨Nat.zero_le _, Nat.zero_le _⟩) (fun H locs hI => ?_)
  clear hr_1
  refine lv_if_ne (tgt := 13) Γ.1.1 Γ.1.2.1 dX11_cuts_8 (by decide) (fun c_3 => ?_) (fun c_3 => ?_)
  · replace h := ite_neg c_3 h; clear c_3
    refine lv_aload_n Γ.1.1 Γ.1.2.1 dX11_cuts_13 rfl (lv_at hl 0 rfl) ?_
    obtain ⟨σ_5, hr_4, h⟩ := ob_some h
    refine g_cr Γ hI (g_runV (As := []) Γ hI (S_X11_ringsNow l X σ σ_5 hr_4) mf_X11_ringsNow (recv_X11 Γ hI) gw_138 rfl rfl ⟨Nat.le_of_ble_eq_true rfl, Nat.le_of_ble_eq_true rfl⟩ rfl hl.1 rfl (Nat.le_of_ble_eq_true rfl) dX11_cuts_14 ⟨Nat.zero_le _, Nat.zero_le _⟩) (fun H locs hI => ?_)
    clear hr_4
    refine lv_aload_n Γ.1.1 Γ.1.2.1 dX11_cuts_17 rfl (lv_at hl 0 rfl) ?_
    refine get_X11_net Γ hI gw_106 dX11_cuts_18 ?_
    refine get_X3_there sh_8 Γ hI gw_115 dX11_cuts_21 ?_
    refine lv_iload_n Γ.1.1 Γ.1.2.1 dX11_cuts_24 rfl (lv_at hl 1 rfl) ?_
    refine lv_iconst (v := (-1 : Int32)) Γ.1.1 Γ.1.2.1 dX11_cuts_25 (by decide) ?_
    refine lv_ixor Γ.1.1 Γ.1.2.1 dX11_cuts_26 ?_
    refine lv_iand Γ.1.1 Γ.1.2.1 dX11_cuts_27 ?_
    obtain ⟨r_6, hr_6, h⟩ := ob_some h
    refine g_ci Γ hI (g_runV (As := [.int ((σ_5.1 8 3) &&& (v1 ^^^ (-1 : Int32)))]) Γ hI (S_X8_isFree l X σ_5 ((σ_5.1 8 3) &&& (v1 ^^^ (-1 : Int32))) r_6 hr_6) mf_X8_isFree (recv_X8 Γ hI) gw_139 rfl rfl ⟨Nat.le_of_ble_eq_true rfl, Nat.le_of_ble_eq_true rfl⟩ rfl hl.1 rfl (Nat.le_of_ble_eq_true rfl) dX11_cuts_28 ⟨Nat.zero_le _, Nat.zero_le _⟩) (fun H locs hI => ?_)
    clear hr_6
    refine lv_if_eq (tgt := 38) Γ.1.1 Γ.1.2.1 dX11_cuts_31 (by decide) (fun c_8 => ?_) (fun c_8 => ?_)
    · replace h := ite_pos c_8 h; clear c_8
      refine lv_iconst (v := (0 : Int32)) Γ.1.1 Γ.1.2.1 dX11_cuts_38 (by decide) ?_
      exact g_iret Γ hI dX11_cuts_39 (Prod.mk.inj (Option.some.inj h)).1 (Prod.mk.inj (Option.some.inj h)).2
    · replace h := ite_neg c_8 h; clear c_8
      refine lv_iconst (v := (1 : Int32)) Γ.1.1 Γ.1.2.1 dX11_cuts_34 (by decide) ?_
      refine lv_goto (tgt := 39) Γ.1.1 Γ.1.2.1 dX11_cuts_35 (by decide) ?_
      exact g_iret Γ hI dX11_cuts_39 (Prod.mk.inj (Option.some.inj h)).1 (Prod.mk.inj (Option.some.inj h)).2
  · replace h := ite_pos c_3 h; clear c_3
    refine lv_iconst (v := (-1 : Int32)) Γ.1.1 Γ.1.2.1 dX11_cuts_11 (by decide) ?_
    exact g_iret Γ hI dX11_cuts_12 (Prod.mk.inj (Option.some.inj h)).1 (Prod.mk.inj (Option.some.inj h)).2
set_option maxRecDepth 20000 in
set_option maxHeartbeats 4000000 in
theorem s_X8_fewestOf_L9 {p : Program} {l : Launch} {e : Env} {s : State} {m : MethodId} {args : Array Value} {below : List Frame} {meth : Method} {c : Code} {X : GX} (σ : GM) (x : Int32) (Γ : gC X p m meth c cX8_fewestOf 6 s args RX8 (some .int)) (v1 : Int32) (v2 : Int32) :
    ∀ (k : Nat) (v3 : Int32) (v4 : Int32) (v5 : Int32) (H : Heap) (locs : List Loc) (ls : Array Slot), gI X σ s H locs → lv_has ls 6 [(0, .ref (X.2.1 + 49)), (1, .int v1), (2, .int v2), (3, .int v3), (4, .int v4), (5, .int v5)] → f_X8_fewestOf_L9 σ v1 v2 k v3 v4 v5 = some x →
    W p l e ({ frames := 1, cells := 0, slots := 0, locals := 21 } : Room) s m args below meth c H locs 0 0 (MQ below (gQi X σ x) args s 0 0 (gA X)) (F0 m 9 ls []) := by
  intro k
  induction k with
  | zero =>
    intro v3 v4 v5 H locs ls hI hl h
    exact absurd h (by simp [f_X8_fewestOf_L9])
  | succ k ih =>
    intro v3 v4 v5 H locs ls hI hl h
    unfold f_X8_fewestOf_L9 at h
    refine lv_iload Γ.1.1 Γ.1.2.1 dX8_fewestOf_9 (lv_at hl 5 rfl) ?_
    refine lv_iload_n Γ.1.1 Γ.1.2.1 dX8_fewestOf_11 rfl (lv_at hl 1 rfl) ?_
    refine lv_icmp_gt (tgt := 70) Γ.1.1 Γ.1.2.1 dX8_fewestOf_12 (by decide) (fun c_1 => ?_) (fun c_1 => ?_)
    · replace h := ite_pos c_1 h; clear c_1
      refine lv_iload_n Γ.1.1 Γ.1.2.1 dX8_fewestOf_70 rfl (lv_at hl 3 rfl) ?_
      exact g_iret Γ hI dX8_fewestOf_71 rfl (Option.some.inj h)
    · replace h := ite_neg c_1 h; clear c_1
      refine lv_iload Γ.1.1 Γ.1.2.1 dX8_fewestOf_15 (lv_at hl 5 rfl) ?_
      refine lv_iload_n Γ.1.1 Γ.1.2.1 dX8_fewestOf_17 rfl (lv_at hl 1 rfl) ?_
      refine lv_iconst (v := (-1 : Int32)) Γ.1.1 Γ.1.2.1 dX8_fewestOf_18 (by decide) ?_
      refine lv_ixor Γ.1.1 Γ.1.2.1 dX8_fewestOf_19 ?_
      refine lv_iand Γ.1.1 Γ.1.2.1 dX8_fewestOf_20 ?_
      refine lv_if_ne (tgt := 64) Γ.1.1 Γ.1.2.1 dX8_fewestOf_21 (by decide) (fun c_2 => ?_) (fun c_2 => ?_)
      · replace h := ite_neg c_2 h; clear c_2
        obtain ⟨v5_3, e_v5_3, h⟩ := nm_some h
        refine lv_iinc (v := v5_3) (lv' := [(5, .int v5_3), (0, .ref (X.2.1 + 49)), (1, .int v1), (2, .int v2), (3, .int v3), (4, .int v4)]) Γ.1.1 Γ.1.2.1 dX8_fewestOf_64 hl (k := 5) rfl (by rw [e_v5_3]; rfl) (by decide) rfl (fun ls hl => ?_)
        clear e_v5_3
        refine lv_goto (tgt := 9) Γ.1.1 Γ.1.2.1 dX8_fewestOf_67 (by decide) ?_
        exact ih v3 v4 v5_3 _ _ _ hI (lv_sub hl [1, 2, 3, 4, 5, 0] rfl) h
      · replace h := ite_pos c_2 h; clear c_2
        refine lv_iload Γ.1.1 Γ.1.2.1 dX8_fewestOf_24 (lv_at hl 5 rfl) ?_
        refine lv_iload_n Γ.1.1 Γ.1.2.1 dX8_fewestOf_26 rfl (lv_at hl 2 rfl) ?_
        refine lv_iand Γ.1.1 Γ.1.2.1 dX8_fewestOf_27 ?_
        refine lv_if_ne (tgt := 64) Γ.1.1 Γ.1.2.1 dX8_fewestOf_28 (by decide) (fun c_4 => ?_) (fun c_4 => ?_)
        · replace h := ite_neg c_4 h; clear c_4
          obtain ⟨v5_5, e_v5_5, h⟩ := nm_some h
          refine lv_iinc (v := v5_5) (lv' := [(5, .int v5_5), (0, .ref (X.2.1 + 49)), (1, .int v1), (2, .int v2), (3, .int v3), (4, .int v4)]) Γ.1.1 Γ.1.2.1 dX8_fewestOf_64 hl (k := 5) rfl (by rw [e_v5_5]; rfl) (by decide) rfl (fun ls hl => ?_)
          clear e_v5_5
          refine lv_goto (tgt := 9) Γ.1.1 Γ.1.2.1 dX8_fewestOf_67 (by decide) ?_
          exact ih v3 v4 v5_5 _ _ _ hI (lv_sub hl [1, 2, 3, 4, 5, 0] rfl) h
        · replace h := ite_pos c_4 h; clear c_4
          refine lv_iload Γ.1.1 Γ.1.2.1 dX8_fewestOf_31 (lv_at hl 5 rfl) ?_
          obtain ⟨r_6, hr_6, h⟩ := ob_some h
          refine g_ci Γ hI (g_runS (As := [.int v5]) Γ hI (S_J6_bitCount_0f7a4 l X σ v5 r_6 hr_6) mf_J6_bitCount_0f7a4 gw_13 rfl rfl ⟨Nat.le_of_ble_eq_true rfl, Nat.le_of_ble_eq_true rfl⟩ rfl hl.1 rfl (Nat.le_of_ble_eq_true rfl) dX8_fewestOf_33 ⟨Nat.zero_le _, Nat.zero_le _⟩) (fun H locs hI => ?_)
          clear hr_6
          refine lv_iload Γ.1.1 Γ.1.2.1 dX8_fewestOf_36 (lv_at hl 4 rfl) ?_
          refine lv_icmp_ge (tgt := 64) Γ.1.1 Γ.1.2.1 dX8_fewestOf_38 (by decide) (fun c_8 => ?_) (fun c_8 => ?_)
          · replace h := ite_pos c_8 h; clear c_8
            obtain ⟨v5_9, e_v5_9, h⟩ := nm_some h
            refine lv_iinc (v := v5_9) (lv' := [(5, .int v5_9), (0, .ref (X.2.1 + 49)), (1, .int v1), (2, .int v2), (3, .int v3), (4, .int v4)]) Γ.1.1 Γ.1.2.1 dX8_fewestOf_64 hl (k := 5) rfl (by rw [e_v5_9]; rfl) (by decide) rfl (fun ls hl => ?_)
            clear e_v5_9
            refine lv_goto (tgt := 9) Γ.1.1 Γ.1.2.1 dX8_fewestOf_67 (by decide) ?_
            exact ih v3 v4 v5_9 _ _ _ hI (lv_sub hl [1, 2, 3, 4, 5, 0] rfl) h
          · replace h := ite_neg c_8 h; clear c_8
            refine lv_aload_n Γ.1.1 Γ.1.2.1 dX8_fewestOf_41 rfl (lv_at hl 0 rfl) ?_
            refine lv_iload_n Γ.1.1 Γ.1.2.1 dX8_fewestOf_42 rfl (lv_at hl 1 rfl) ?_
            refine lv_iload Γ.1.1 Γ.1.2.1 dX8_fewestOf_43 (lv_at hl 5 rfl) ?_
            refine lv_iconst (v := (-1 : Int32)) Γ.1.1 Γ.1.2.1 dX8_fewestOf_45 (by decide) ?_
            refine lv_ixor Γ.1.1 Γ.1.2.1 dX8_fewestOf_46 ?_
            refine lv_iand Γ.1.1 Γ.1.2.1 dX8_fewestOf_47 ?_
            obtain ⟨r_10, hr_10, h⟩ := ob_some h
            refine g_ci Γ hI (g_runV (As := [.int (v1 &&& (v5 ^^^ (-1 : Int32)))]) Γ hI (S_X8_isFree l X σ (v1 &&& (v5 ^^^ (-1 : Int32))) r_10 hr_10) mf_X8_isFree (recv_X8 Γ hI) gw_126 rfl rfl ⟨Nat.le_of_ble_eq_true rfl, Nat.le_of_ble_eq_true rfl⟩ rfl hl.1 rfl (Nat.le_of_ble_eq_true rfl) dX8_fewestOf_48 ⟨Nat.zero_le _, Nat.zero_le _⟩) (fun H locs hI => ?_)
            clear hr_10
            refine lv_if_eq (tgt := 64) Γ.1.1 Γ.1.2.1 dX8_fewestOf_51 (by decide) (fun c_12 => ?_) (fun c_12 => ?_)
            · replace h := ite_pos c_12 h; clear c_12
              obtain ⟨v5_13, e_v5_13, h⟩ := nm_some h
              refine lv_iinc (v := v5_13) (lv' := [(5, .int v5_13), (0, .ref (X.2.1 + 49)), (1, .int v1), (2, .int v2), (3, .int v3), (4, .int v4)]) Γ.1.1 Γ.1.2.1 dX8_fewestOf_64 hl (k := 5) rfl (by rw [e_v5_13]; rfl) (by decide) rfl (fun ls hl => ?_)
              clear e_v5_13
              refine lv_goto (tgt := 9) Γ.1.1 Γ.1.2.1 dX8_fewestOf_67 (by decide) ?_
              exact ih v3 v4 v5_13 _ _ _ hI (lv_sub hl [1, 2, 3, 4, 5, 0] rfl) h
            · replace h := ite_neg c_12 h; clear c_12
              refine lv_iload Γ.1.1 Γ.1.2.1 dX8_fewestOf_54 (lv_at hl 5 rfl) ?_
              refine lv_istore_n (lv' := [(3, .int v5), (0, .ref (X.2.1 + 49)), (1, .int v1), (2, .int v2), (4, .int v4), (5, .int v5)]) Γ.1.1 Γ.1.2.1 dX8_fewestOf_56 rfl hl (by decide) rfl (fun ls hl => ?_)
              refine lv_iload Γ.1.1 Γ.1.2.1 dX8_fewestOf_57 (lv_at hl 5 rfl) ?_
              obtain ⟨r_14, hr_14, h⟩ := ob_some h
              refine g_ci Γ hI (g_runS (As := [.int v5]) Γ hI (S_J6_bitCount_0f7a4 l X σ v5 r_14 hr_14) mf_J6_bitCount_0f7a4 gw_13 rfl rfl ⟨Nat.le_of_ble_eq_true rfl, Nat.le_of_ble_eq_true rfl⟩ rfl hl.1 rfl (Nat.le_of_ble_eq_true rfl) dX8_fewestOf_59 ⟨Nat.zero_le _, Nat.zero_le _⟩) (fun H locs hI => ?_)
              clear hr_14
              refine lv_istore (lv' := [(4, .int r_14), (3, .int v5), (0, .ref (X.2.1 + 49)), (1, .int v1), (2, .int v2), (5, .int v5)]) Γ.1.1 Γ.1.2.1 dX8_fewestOf_62 hl (by decide) rfl (fun ls hl => ?_)
              obtain ⟨v5_16, e_v5_16, h⟩ := nm_some h
              refine lv_iinc (v := v5_16) (lv' := [(5, .int v5_16), (4, .int r_14), (3, .int v5), (0, .ref (X.2.1 + 49)), (1, .int v1), (2, .int v2)]) Γ.1.1 Γ.1.2.1 dX8_fewestOf_64 hl (k := 5) rfl (by rw [e_v5_16]; rfl) (by decide) rfl (fun ls hl => ?_)
              clear e_v5_16
              refine lv_goto (tgt := 9) Γ.1.1 Γ.1.2.1 dX8_fewestOf_67 (by decide) ?_
              exact ih v5 r_14 v5_16 _ _ _ hI (lv_sub hl [3, 4, 5, 2, 1, 0] rfl) h
