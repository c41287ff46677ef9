/-! WALKS 5 (by gen.py) -/
set_option maxRecDepth 20000 in
set_option maxHeartbeats 4000000 in
theorem S_X12_weightOf (l : Launch) (X : GX) (σ : GM) (v1 : Int32) (x : Int32) (h : f_X12_weightOf σ v1 = some x) : gMet l yX12_weightOf cX12_weightOf 4 (some .int) ({ frames := 1, cells := 0, slots := 0, locals := 21 } : Room) X σ [.ref (X.2.1 + 60), .int v1] (gQi X σ x) := by
  unfold f_X12_weightOf at h
  refine gMet_of (lv := [(0, .ref (X.2.1 + 60)), (1, .int v1)]) (by decide) rfl (Nat.le_of_ble_eq_true rfl) rfl (fun p e s m below meth c H ls Γ hI hl => ?_)
  refine lv_iconst (v := (0 : Int32)) Γ.1.1 Γ.1.2.1 dX12_weightOf_0 (by decide) ?_
  refine lv_istore_n (lv' := [(2, .int (0 : Int32)), (0, .ref (X.2.1 + 60)), (1, .int v1)]) Γ.1.1 Γ.1.2.1 dX12_weightOf_1 rfl hl (by decide) rfl (fun ls hl => ?_)
  refine lv_iconst (v := (0 : Int32)) Γ.1.1 Γ.1.2.1 dX12_weightOf_2 (by decide) ?_
  refine lv_istore_n (lv' := [(3, .int (0 : Int32)), (2, .int (0 : Int32)), (0, .ref (X.2.1 + 60)), (1, .int v1)]) Γ.1.1 Γ.1.2.1 dX12_weightOf_3 rfl hl (by decide) rfl (fun ls hl => ?_)
  exact s_X12_weightOf_L4 σ x Γ v1 _ (0 : Int32) (0 : Int32) _ _ _ hI (lv_sub hl [2, 3, 1, 0] rfl) h
set_option maxRecDepth 20000 in
set_option maxHeartbeats 4000000 in
theorem s_X12_partOf_L29 {p : Program} {l : Launch} {e : Env} {s : State} {m : MethodId} {args : Array Value} {below : List Frame} {meth : Method} {c : Code} {X : GX} (σ : GM) (x : Int32) (Γ : gC X p m meth c cX12_partOf 7 s args RX12 (some .int)) (v2 : Int32) (v4 : Int32) (v5 : Int32) (k7 : Int32 → Int32 → Option Int32) (hk7 : ∀ (v3 : Int32) (v4 : Int32) (H : Heap) (locs : List Loc) (ls : Array Slot), gI X σ s H locs → lv_has ls 7 [(0, .ref (X.2.1 + 60)), (2, .int v2), (3, .int v3), (4, .int v4)] → k7 v3 v4 = some x → W p l e ({ frames := 1, cells := 0, slots := 0, locals := 22 } : Room) s m args below meth c H locs 0 0 (MQ below (gQi X σ x) args s 0 0 (gA X)) (F0 m 7 ls [])) (k19 : Int32 → Int32 → Option Int32) (hk19 : ∀ (v3 : Int32) (v5 : Int32) (H : Heap) (locs : List Loc) (ls : Array Slot), gI X σ s H locs → lv_has ls 7 [(0, .ref (X.2.1 + 60)), (2, .int v2), (3, .int v3), (4, .int v4), (5, .int v5)] → k19 v3 v5 = some x → W p l e ({ frames := 1, cells := 0, slots := 0, locals := 22 } : Room) s m args below meth c H locs 0 0 (MQ below (gQi X σ x) args s 0 0 (gA X)) (F0 m 19 ls [])) :
    ∀ (k : Nat) (v3 : Int32) (v6 : Int32) (H : Heap) (locs : List Loc) (ls : Array Slot), gI X σ s H locs → lv_has ls 7 [(0, .ref (X.2.1 + 60)), (2, .int v2), (3, .int v3), (4, .int v4), (5, .int v5), (6, .int v6)] → f_X12_partOf_L29 σ k7 k19 v2 v4 v5 k v3 v6 = some x →
    W p l e ({ frames := 1, cells := 0, slots := 0, locals := 22 } : Room) s m args below meth c H locs 0 0 (MQ below (gQi X σ x) args s 0 0 (gA X)) (F0 m 29 ls []) := by
  intro k
  induction k with
  | zero =>
    intro v3 v6 H locs ls hI hl h
    exact absurd h (by simp [f_X12_partOf_L29])
  | succ k ih =>
    intro v3 v6 H locs ls hI hl h
    unfold f_X12_partOf_L29 at h
    refine lv_iload Γ.1.1 Γ.1.2.1 dX12_partOf_29 (lv_at hl 5 rfl) ?_
    refine lv_bipush (v := (12 : Int32)) Γ.1.1 Γ.1.2.1 dX12_partOf_31 (by decide) ?_
    refine lv_icmp_ge (tgt := 82) Γ.1.1 Γ.1.2.1 dX12_partOf_33 (by decide) (fun c_4 => ?_) (fun c_4 => ?_)
    · replace h := ite_pos c_4 h; clear c_4
      obtain ⟨v5_5, e_v5_5, h⟩ := nm_some h
      refine lv_iinc (v := v5_5) (lv' := [(5, .int v5_5), (0, .ref (X.2.1 + 60)), (2, .int v2), (3, .int v3), (4, .int v4), (6, .int v6)]) Γ.1.1 Γ.1.2.1 dX12_partOf_82 hl (k := 4) rfl (by rw [e_v5_5]; rfl) (by decide) rfl (fun ls hl => ?_)
      clear e_v5_5
      refine lv_goto (tgt := 19) Γ.1.1 Γ.1.2.1 dX12_partOf_85 (by decide) ?_
      exact hk19 v3 v5_5 _ _ _ hI (lv_sub hl [1, 2, 3, 4, 0] rfl) h
    · replace h := ite_neg c_4 h; clear c_4
      refine lv_iload Γ.1.1 Γ.1.2.1 dX12_partOf_36 (lv_at hl 3 rfl) ?_
      refine lv_iload Γ.1.1 Γ.1.2.1 dX12_partOf_38 (lv_at hl 4 rfl) ?_
      obtain ⟨r_6, hr_6, h⟩ := ob_some h
      refine g_ci Γ hI (g_runS (As := [.int v4, .int v5]) Γ hI (S_X12_has l X σ v4 v5 r_6 hr_6) mf_X12_has gw_212 rfl rfl ⟨Nat.le_of_ble_eq_true rfl, Nat.le_of_ble_eq_true rfl⟩ rfl hl.1 rfl (Nat.le_of_ble_eq_true rfl) dX12_partOf_40 ⟨Nat.zero_le _, Nat.zero_le _⟩) (fun H locs hI => ?_)
      clear hr_6
      refine lv_if_eq (tgt := 76) Γ.1.1 Γ.1.2.1 dX12_partOf_43 (by decide) (fun c_8 => ?_) (fun c_8 => ?_)
      · replace h := ite_pos c_8 h; clear c_8
        obtain ⟨v6_9, e_v6_9, h⟩ := nm_some h
        refine lv_iinc (v := v6_9) (lv' := [(6, .int v6_9), (0, .ref (X.2.1 + 60)), (2, .int v2), (3, .int v3), (4, .int v4), (5, .int v5)]) Γ.1.1 Γ.1.2.1 dX12_partOf_76 hl (k := 5) rfl (by rw [e_v6_9]; rfl) (by decide) rfl (fun ls hl => ?_)
        clear e_v6_9
        refine lv_goto (tgt := 29) Γ.1.1 Γ.1.2.1 dX12_partOf_79 (by decide) ?_
        exact ih v3 v6_9 _ _ _ hI (lv_sub hl [1, 2, 3, 4, 5, 0] rfl) h
      · replace h := ite_neg c_8 h; clear c_8
        refine lv_iload_n Γ.1.1 Γ.1.2.1 dX12_partOf_46 rfl (lv_at hl 1 rfl) ?_
        refine lv_iload Γ.1.1 Γ.1.2.1 dX12_partOf_47 (lv_at hl 5 rfl) ?_
        obtain ⟨r_10, hr_10, h⟩ := ob_some h
        refine g_ci Γ hI (g_runS (As := [.int v2, .int v6]) Γ hI (S_X12_has l X σ v2 v6 r_10 hr_10) mf_X12_has gw_212 rfl rfl ⟨Nat.le_of_ble_eq_true rfl, Nat.le_of_ble_eq_true rfl⟩ rfl hl.1 rfl (Nat.le_of_ble_eq_true rfl) dX12_partOf_49 ⟨Nat.zero_le _, Nat.zero_le _⟩) (fun H locs hI => ?_)
        clear hr_10
        refine lv_if_eq (tgt := 76) Γ.1.1 Γ.1.2.1 dX12_partOf_52 (by decide) (fun c_12 => ?_) (fun c_12 => ?_)
        · replace h := ite_pos c_12 h; clear c_12
          obtain ⟨v6_13, e_v6_13, h⟩ := nm_some h
          refine lv_iinc (v := v6_13) (lv' := [(6, .int v6_13), (0, .ref (X.2.1 + 60)), (2, .int v2), (3, .int v3), (4, .int v4), (5, .int v5)]) Γ.1.1 Γ.1.2.1 dX12_partOf_76 hl (k := 5) rfl (by rw [e_v6_13]; rfl) (by decide) rfl (fun ls hl => ?_)
          clear e_v6_13
          refine lv_goto (tgt := 29) Γ.1.1 Γ.1.2.1 dX12_partOf_79 (by decide) ?_
          exact ih v3 v6_13 _ _ _ hI (lv_sub hl [1, 2, 3, 4, 5, 0] rfl) h
        · replace h := ite_neg c_12 h; clear c_12
          refine lv_aload_n Γ.1.1 Γ.1.2.1 dX12_partOf_55 rfl (lv_at hl 0 rfl) ?_
          refine get_X12_now Γ hI gw_244 dX12_partOf_56 ?_
          refine lv_iload Γ.1.1 Γ.1.2.1 dX12_partOf_59 (lv_at hl 4 rfl) ?_
          refine lv_iload Γ.1.1 Γ.1.2.1 dX12_partOf_61 (lv_at hl 5 rfl) ?_
          obtain ⟨r_14, hr_14, h⟩ := ob_some h
          refine g_ci Γ hI (g_runS (As := [.ref (X.2.1 + 62), .int v5, .int v6]) Γ hI (S_X12_between l X σ 62 sh_62 v5 v6 r_14 hr_14) mf_X12_between gw_232 rfl rfl ⟨Nat.le_of_ble_eq_true rfl, Nat.le_of_ble_eq_true rfl⟩ rfl hl.1 rfl (Nat.le_of_ble_eq_true rfl) dX12_partOf_63 ⟨Nat.zero_le _, Nat.zero_le _⟩) (fun H locs hI => ?_)
          clear hr_14
          refine lv_if_le (tgt := 76) Γ.1.1 Γ.1.2.1 dX12_partOf_66 (by decide) (fun c_16 => ?_) (fun c_16 => ?_)
          · replace h := ite_pos c_16 h; clear c_16
            obtain ⟨v6_17, e_v6_17, h⟩ := nm_some h
            refine lv_iinc (v := v6_17) (lv' := [(6, .int v6_17), (0, .ref (X.2.1 + 60)), (2, .int v2), (3, .int v3), (4, .int v4), (5, .int v5)]) Γ.1.1 Γ.1.2.1 dX12_partOf_76 hl (k := 5) rfl (by rw [e_v6_17]; rfl) (by decide) rfl (fun ls hl => ?_)
            clear e_v6_17
            refine lv_goto (tgt := 29) Γ.1.1 Γ.1.2.1 dX12_partOf_79 (by decide) ?_
            exact ih v3 v6_17 _ _ _ hI (lv_sub hl [1, 2, 3, 4, 5, 0] rfl) h
          · replace h := ite_neg c_16 h; clear c_16
            refine lv_iload_n Γ.1.1 Γ.1.2.1 dX12_partOf_69 rfl (lv_at hl 2 rfl) ?_
            refine lv_iconst (v := (1 : Int32)) Γ.1.1 Γ.1.2.1 dX12_partOf_70 (by decide) ?_
            refine lv_iload Γ.1.1 Γ.1.2.1 dX12_partOf_71 (lv_at hl 5 rfl) ?_
            refine lv_ishl Γ.1.1 Γ.1.2.1 dX12_partOf_73 ?_
            refine lv_ior Γ.1.1 Γ.1.2.1 dX12_partOf_74 ?_
            refine lv_topi (fun v3_18 e_v3_18 => ?_)
            replace h := nm_at e_v3_18 h; clear e_v3_18
            refine lv_istore_n (lv' := [(3, .int v3_18), (0, .ref (X.2.1 + 60)), (2, .int v2), (4, .int v4), (5, .int v5), (6, .int v6)]) Γ.1.1 Γ.1.2.1 dX12_partOf_75 rfl hl (by decide) rfl (fun ls hl => ?_)
            obtain ⟨v6_19, e_v6_19, h⟩ := nm_some h
            refine lv_iinc (v := v6_19) (lv' := [(6, .int v6_19), (3, .int v3_18), (0, .ref (X.2.1 + 60)), (2, .int v2), (4, .int v4), (5, .int v5)]) Γ.1.1 Γ.1.2.1 dX12_partOf_76 hl (k := 5) rfl (by rw [e_v6_19]; rfl) (by decide) rfl (fun ls hl => ?_)
            clear e_v6_19
            refine lv_goto (tgt := 29) Γ.1.1 Γ.1.2.1 dX12_partOf_79 (by decide) ?_
            exact ih v3_18 v6_19 _ _ _ hI (lv_sub hl [2, 3, 1, 4, 5, 0] rfl) h
set_option maxRecDepth 20000 in
set_option maxHeartbeats 4000000 in
theorem s_X12_partOf_L19 {p : Program} {l : Launch} {e : Env} {s : State} {m : MethodId} {args : Array Value} {below : List Frame} {meth : Method} {c : Code} {X : GX} (σ : GM) (x : Int32) (Γ : gC X p m meth c cX12_partOf 7 s args RX12 (some .int)) (v2 : Int32) (v4 : Int32) (k7 : Int32 → Int32 → Option Int32) (hk7 : ∀ (v3 : Int32) (v4 : Int32) (H : Heap) (locs : List Loc) (ls : Array Slot), gI X σ s H locs → lv_has ls 7 [(0, .ref (X.2.1 + 60)), (2, .int v2), (3, .int v3), (4, .int v4)] → k7 v3 v4 = some x → W p l e ({ frames := 1, cells := 0, slots := 0, locals := 22 } : Room) s m args below meth c H locs 0 0 (MQ below (gQi X σ x) args s 0 0 (gA X)) (F0 m 7 ls [])) :
    ∀ (k : Nat) (v3 : Int32) (v5 : Int32) (H : Heap) (locs : List Loc) (ls : Array Slot), gI X σ s H locs → lv_has ls 7 [(0, .ref (X.2.1 + 60)), (2, .int v2), (3, .int v3), (4, .int v4), (5, .int v5)] → f_X12_partOf_L19 σ k7 v2 v4 k v3 v5 = some x →
    W p l e ({ frames := 1, cells := 0, slots := 0, locals := 22 } : Room) s m args below meth c H locs 0 0 (MQ below (gQi X σ x) args s 0 0 (gA X)) (F0 m 19 ls []) := by
  intro k
  induction k with
  | zero =>
    intro v3 v5 H locs ls hI hl h
    exact absurd h (by simp [f_X12_partOf_L19])
  | succ k ih =>
    intro v3 v5 H locs ls hI hl h
    unfold f_X12_partOf_L19 at h
    refine lv_iload Γ.1.1 Γ.1.2.1 dX12_partOf_19 (lv_at hl 4 rfl) ?_
    refine lv_bipush (v := (12 : Int32)) Γ.1.1 Γ.1.2.1 dX12_partOf_21 (by decide) ?_
    refine lv_icmp_ge (tgt := 88) Γ.1.1 Γ.1.2.1 dX12_partOf_23 (by decide) (fun c_3 => ?_) (fun c_3 => ?_)
    · replace h := ite_pos c_3 h; clear c_3
      refine lv_goto (tgt := 7) Γ.1.1 Γ.1.2.1 dX12_partOf_88 (by decide) ?_
      exact hk7 v3 v4 _ _ _ hI (lv_sub hl [0, 1, 2, 3] rfl) h
    · replace h := ite_neg c_3 h; clear c_3
      refine lv_iconst (v := (0 : Int32)) Γ.1.1 Γ.1.2.1 dX12_partOf_26 (by decide) ?_
      refine lv_istore (lv' := [(6, .int (0 : Int32)), (0, .ref (X.2.1 + 60)), (2, .int v2), (3, .int v3), (4, .int v4), (5, .int v5)]) Γ.1.1 Γ.1.2.1 dX12_partOf_27 hl (by decide) rfl (fun ls hl => ?_)
      exact s_X12_partOf_L29 σ x Γ v2 v4 v5 _ hk7 _ ih _ v3 (0 : Int32) _ _ _ hI (lv_sub hl [1, 2, 3, 4, 5, 0] rfl) h
set_option maxRecDepth 20000 in
set_option maxHeartbeats 4000000 in
theorem s_X12_partOf_L7 {p : Program} {l : Launch} {e : Env} {s : State} {m : MethodId} {args : Array Value} {below : List Frame} {meth : Method} {c : Code} {X : GX} (σ : GM) (x : Int32) (Γ : gC X p m meth c cX12_partOf 7 s args RX12 (some .int)) (v2 : Int32) :
    ∀ (k : Nat) (v3 : Int32) (v4 : Int32) (H : Heap) (locs : List Loc) (ls : Array Slot), gI X σ s H locs → lv_has ls 7 [(0, .ref (X.2.1 + 60)), (2, .int v2), (3, .int v3), (4, .int v4)] → f_X12_partOf_L7 σ v2 k v3 v4 = some x →
    W p l e ({ frames := 1, cells := 0, slots := 0, locals := 22 } : Room) s m args below meth c H locs 0 0 (MQ below (gQi X σ x) args s 0 0 (gA X)) (F0 m 7 ls []) := by
  intro k
  induction k with
  | zero =>
    intro v3 v4 H locs ls hI hl h
    exact absurd h (by simp [f_X12_partOf_L7])
  | succ k ih =>
    intro v3 v4 H locs ls hI hl h
    unfold f_X12_partOf_L7 at h
    refine lv_iload_n Γ.1.1 Γ.1.2.1 dX12_partOf_7 rfl (lv_at hl 2 rfl) ?_
    refine lv_iload Γ.1.1 Γ.1.2.1 dX12_partOf_8 (lv_at hl 3 rfl) ?_
    refine lv_icmp_eq (tgt := 91) Γ.1.1 Γ.1.2.1 dX12_partOf_10 (by decide) (fun c_2 => ?_) (fun c_2 => ?_)
    · replace h := ite_pos c_2 h; clear c_2
      refine lv_iload_n Γ.1.1 Γ.1.2.1 dX12_partOf_91 rfl (lv_at hl 2 rfl) ?_
      exact g_iret Γ hI dX12_partOf_92 rfl (Option.some.inj h)
    · replace h := ite_neg c_2 h; clear c_2
      refine lv_iload_n Γ.1.1 Γ.1.2.1 dX12_partOf_13 rfl (lv_at hl 2 rfl) ?_
      refine lv_istore (lv' := [(4, .int v3), (0, .ref (X.2.1 + 60)), (2, .int v2), (3, .int v3)]) Γ.1.1 Γ.1.2.1 dX12_partOf_14 hl (by decide) rfl (fun ls hl => ?_)
      refine lv_iconst (v := (0 : Int32)) Γ.1.1 Γ.1.2.1 dX12_partOf_16 (by decide) ?_
      refine lv_istore (lv' := [(5, .int (0 : Int32)), (4, .int v3), (0, .ref (X.2.1 + 60)), (2, .int v2), (3, .int v3)]) Γ.1.1 Γ.1.2.1 dX12_partOf_17 hl (by decide) rfl (fun ls hl => ?_)
      exact s_X12_partOf_L19 σ x Γ v2 v3 _ ih _ v3 (0 : Int32) _ _ _ hI (lv_sub hl [2, 3, 4, 1, 0] rfl) h
set_option maxRecDepth 20000 in
set_option maxHeartbeats 4000000 in
theorem S_X12_partOf (l : Launch) (X : GX) (σ : GM) (v1 : Int32) (v2 : Int32) (x : Int32) (h : f_X12_partOf σ v1 v2 = some x) : gMet l yX12_partOf cX12_partOf 7 (some .int) ({ frames := 1, cells := 0, slots := 0, locals := 22 } : Room) X σ [.ref (X.2.1 + 60), .int v1, .int v2] (gQi X σ x) := by
  unfold f_X12_partOf at h
  refine gMet_of (lv := [(0, .ref (X.2.1 + 60)), (1, .int v1), (2, .int v2)]) (by decide) rfl (Nat.le_of_ble_eq_true rfl) rfl (fun p e s m below meth c H ls Γ hI hl => ?_)
  refine lv_iconst (v := (1 : Int32)) Γ.1.1 Γ.1.2.1 dX12_partOf_0 (by decide) ?_
  refine lv_iload_n Γ.1.1 Γ.1.2.1 dX12_partOf_1 rfl (lv_at hl 1 rfl) ?_
  refine lv_ishl Γ.1.1 Γ.1.2.1 dX12_partOf_2 ?_
  refine lv_topi (fun v3_1 e_v3_1 => ?_)
  replace h := nm_at e_v3_1 h; clear e_v3_1
  refine lv_istore_n (lv' := [(3, .int v3_1), (0, .ref (X.2.1 + 60)), (1, .int v1), (2, .int v2)]) Γ.1.1 Γ.1.2.1 dX12_partOf_3 rfl hl (by decide) rfl (fun ls hl => ?_)
  refine lv_iconst (v := (0 : Int32)) Γ.1.1 Γ.1.2.1 dX12_partOf_4 (by decide) ?_
  refine lv_istore (lv' := [(4, .int (0 : Int32)), (3, .int v3_1), (0, .ref (X.2.1 + 60)), (1, .int v1), (2, .int v2)]) Γ.1.1 Γ.1.2.1 dX12_partOf_5 hl (by decide) rfl (fun ls hl => ?_)
  exact s_X12_partOf_L7 σ x Γ v2 _ v3_1 (0 : Int32) _ _ _ hI (lv_sub hl [2, 4, 1, 0] rfl) h
set_option maxRecDepth 20000 in
set_option maxHeartbeats 4000000 in
theorem s_X12_parts_L4 {p : Program} {l : Launch} {e : Env} {s : State} {m : MethodId} {args : Array Value} {below : List Frame} {meth : Method} {c : Code} {X : GX} (σ : GM) (x : Int32) (Γ : gC X p m meth c cX12_parts 4 s args RX12 (some .int)) (v1 : Int32) :
    ∀ (k : Nat) (v2 : Int32) (v3 : Int32) (H : Heap) (locs : List Loc) (ls : Array Slot), gI X σ s H locs → lv_has ls 4 [(0, .ref (X.2.1 + 60)), (1, .int v1), (2, .int v2), (3, .int v3)] → f_X12_parts_L4 σ v1 k v2 v3 = some x →
    W p l e ({ frames := 2, cells := 0, slots := 0, locals := 48 } : Room) s m args below meth c H locs 0 0 (MQ below (gQi X σ x) args s 0 0 (gA X)) (F0 m 4 ls []) := by
  intro k
  induction k with
  | zero =>
    intro v2 v3 H locs ls hI hl h
    exact absurd h (by simp [f_X12_parts_L4])
  | succ k ih =>
    intro v2 v3 H locs ls hI hl h
    unfold f_X12_parts_L4 at h
    refine lv_iload_n Γ.1.1 Γ.1.2.1 dX12_parts_4 rfl (lv_at hl 2 rfl) ?_
    refine lv_if_eq (tgt := 28) Γ.1.1 Γ.1.2.1 dX12_parts_5 (by decide) (fun c_1 => ?_) (fun c_1 => ?_)
    · replace h := ite_pos c_1 h; clear c_1
      refine lv_iload_n Γ.1.1 Γ.1.2.1 dX12_parts_28 rfl (lv_at hl 3 rfl) ?_
      exact g_iret Γ hI dX12_parts_29 rfl (Option.some.inj h)
    · replace h := ite_neg c_1 h; clear c_1
      refine lv_iload_n Γ.1.1 Γ.1.2.1 dX12_parts_8 rfl (lv_at hl 2 rfl) ?_
      refine lv_aload_n Γ.1.1 Γ.1.2.1 dX12_parts_9 rfl (lv_at hl 0 rfl) ?_
      refine lv_iload_n Γ.1.1 Γ.1.2.1 dX12_parts_10 rfl (lv_at hl 2 rfl) ?_
      obtain ⟨r_2, hr_2, h⟩ := ob_some h
      refine g_ci Γ hI (g_runS (As := [.int v2]) Γ hI (S_X12_least l X σ v2 r_2 hr_2) mf_X12_least gw_251 rfl rfl ⟨Nat.le_of_ble_eq_true rfl, Nat.le_of_ble_eq_true rfl⟩ rfl hl.1 rfl (Nat.le_of_ble_eq_true rfl) dX12_parts_11 ⟨Nat.zero_le _, Nat.zero_le _⟩) (fun H locs hI => ?_)
      clear hr_2
      refine lv_iload_n Γ.1.1 Γ.1.2.1 dX12_parts_14 rfl (lv_at hl 1 rfl) ?_
      obtain ⟨r_4, hr_4, h⟩ := ob_some h
      refine g_ci Γ hI (g_runV (As := [.int r_2, .int v1]) Γ hI (S_X12_partOf l X σ r_2 v1 r_4 hr_4) mf_X12_partOf (recv_X12 Γ hI) gw_252 rfl rfl ⟨Nat.le_of_ble_eq_true rfl, Nat.le_of_ble_eq_true rfl⟩ rfl hl.1 rfl (Nat.le_of_ble_eq_true rfl) dX12_parts_15 ⟨Nat.zero_le _, Nat.zero_le _⟩) (fun H locs hI => ?_)
      clear hr_4
      refine lv_iconst (v := (-1 : Int32)) Γ.1.1 Γ.1.2.1 dX12_parts_18 (by decide) ?_
      refine lv_ixor Γ.1.1 Γ.1.2.1 dX12_parts_19 ?_
      refine lv_iand Γ.1.1 Γ.1.2.1 dX12_parts_20 ?_
      refine lv_topi (fun v2_6 e_v2_6 => ?_)
      replace h := nm_at e_v2_6 h; clear e_v2_6
      refine lv_istore_n (lv' := [(2, .int v2_6), (0, .ref (X.2.1 + 60)), (1, .int v1), (3, .int v3)]) Γ.1.1 Γ.1.2.1 dX12_parts_21 rfl hl (by decide) rfl (fun ls hl => ?_)
      obtain ⟨v3_7, e_v3_7, h⟩ := nm_some h
      refine lv_iinc (v := v3_7) (lv' := [(3, .int v3_7), (2, .int v2_6), (0, .ref (X.2.1 + 60)), (1, .int v1)]) Γ.1.1 Γ.1.2.1 dX12_parts_22 hl (k := 3) rfl (by rw [e_v3_7]; rfl) (by decide) rfl (fun ls hl => ?_)
      clear e_v3_7
      refine lv_goto (tgt := 4) Γ.1.1 Γ.1.2.1 dX12_parts_25 (by decide) ?_
      exact ih v2_6 v3_7 _ _ _ hI (lv_sub hl [2, 3, 1, 0] rfl) h
set_option maxRecDepth 20000 in
set_option maxHeartbeats 4000000 in
theorem S_X12_parts (l : Launch) (X : GX) (σ : GM) (v1 : Int32) (x : Int32) (h : f_X12_parts σ v1 = some x) : gMet l yX12_parts cX12_parts 4 (some .int) ({ frames := 2, cells := 0, slots := 0, locals := 48 } : Room) X σ [.ref (X.2.1 + 60), .int v1] (gQi X σ x) := by
  unfold f_X12_parts at h
  refine gMet_of (lv := [(0, .ref (X.2.1 + 60)), (1, .int v1)]) (by decide) rfl (Nat.le_of_ble_eq_true rfl) rfl (fun p e s m below meth c H ls Γ hI hl => ?_)
  refine lv_iload_n Γ.1.1 Γ.1.2.1 dX12_parts_0 rfl (lv_at hl 1 rfl) ?_
  refine lv_istore_n (lv' := [(2, .int v1), (0, .ref (X.2.1 + 60)), (1, .int v1)]) Γ.1.1 Γ.1.2.1 dX12_parts_1 rfl hl (by decide) rfl (fun ls hl => ?_)
  refine lv_iconst (v := (0 : Int32)) Γ.1.1 Γ.1.2.1 dX12_parts_2 (by decide) ?_
  refine lv_istore_n (lv' := [(3, .int (0 : Int32)), (2, .int v1), (0, .ref (X.2.1 + 60)), (1, .int v1)]) Γ.1.1 Γ.1.2.1 dX12_parts_3 rfl hl (by decide) rfl (fun ls hl => ?_)
  exact s_X12_parts_L4 σ x Γ v1 _ v1 (0 : Int32) _ _ _ hI (lv_sub hl [2, 3, 1, 0] rfl) h
set_option maxRecDepth 20000 in
set_option maxHeartbeats 4000000 in
theorem S_X12_now (l : Launch) (X : GX) (σ : GM) (v1 : Int32) (σr : GM) (x : Int32) (h : f_X12_now σ v1 = some (σr, x)) : gMet l yX12_now cX12_now 2 (some .int) ({ frames := 3, cells := 0, slots := 0, locals := 71 } : Room) X σ [.ref (X.2.1 + 60), .int v1] (gQi X σr x) := by
  unfold f_X12_now at h
  refine gMet_of (lv := [(0, .ref (X.2.1 + 60)), (1, .int v1)]) (by decide) rfl (Nat.le_of_ble_eq_true rfl) rfl (fun p e s m below meth c H ls Γ hI hl => ?_)
  refine lv_aload_n Γ.1.1 Γ.1.2.1 dX12_now_0 rfl (lv_at hl 0 rfl) ?_
  refine lv_iconst (v := (0 : Int32)) Γ.1.1 Γ.1.2.1 dX12_now_1 (by decide) ?_
  refine put_X12_thrown Γ hI gw_211 dX12_now_2 (fun H locs hI => ?_)
  obtain ⟨σ_1, e_m_1, h⟩ := nm_some h
  rw [← e_m_1] at hI; clear e_m_1
  refine lv_iload_n Γ.1.1 Γ.1.2.1 dX12_now_5 rfl (lv_at hl 1 rfl) ?_
  by_cases c_6_0 : v1 = (0 : Int32)
  · replace h := ite_pos c_6_0 h
    refine lv_tableIn (off := 46) (tgt := 52) Γ.1.1 Γ.1.2.1 dX12_now_6 (by rw [c_6_0]; decide) (by rw [c_6_0]; decide) (by rw [c_6_0]; decide) (by decide) ?_
    refine lv_aload_n Γ.1.1 Γ.1.2.1 dX12_now_52 rfl (lv_at hl 0 rfl) ?_
    refine get_X12_now Γ hI gw_244 dX12_now_53 ?_
    refine lv_iconst (v := (0 : Int32)) Γ.1.1 Γ.1.2.1 dX12_now_56 (by decide) ?_
    obtain ⟨hb_2, h⟩ := bnd_some h
    refine g_iald Γ hI sh_62 hb_2 dX12_now_57 ?_
    exact g_iret Γ hI dX12_now_58 (Prod.mk.inj (Option.some.inj h)).1 (Prod.mk.inj (Option.some.inj h)).2
  · replace h := ite_neg c_6_0 h
    by_cases c_6_1 : v1 = (1 : Int32)
    · replace h := ite_pos c_6_1 h
      refine lv_tableIn (off := 53) (tgt := 59) Γ.1.1 Γ.1.2.1 dX12_now_6 (by rw [c_6_1]; decide) (by rw [c_6_1]; decide) (by rw [c_6_1]; decide) (by decide) ?_
      refine lv_aload_n Γ.1.1 Γ.1.2.1 dX12_now_59 rfl (lv_at hl 0 rfl) ?_
      obtain ⟨r_3, hr_3, h⟩ := ob_some h
      refine g_ci Γ hI (g_runV (As := []) Γ hI (S_X12_there l X σ_1 r_3 hr_3) mf_X12_there (recv_X12 Γ hI) gw_250 rfl rfl ⟨Nat.le_of_ble_eq_true rfl, Nat.le_of_ble_eq_true rfl⟩ rfl hl.1 rfl (Nat.le_of_ble_eq_true rfl) dX12_now_60 ⟨Nat.zero_le _, Nat.zero_le _⟩) (fun H locs hI => ?_)
      clear hr_3
      exact g_iret Γ hI dX12_now_63 (Prod.mk.inj (Option.some.inj h)).1 (Prod.mk.inj (Option.some.inj h)).2
    · replace h := ite_neg c_6_1 h
      by_cases c_6_2 : v1 = (2 : Int32)
      · replace h := ite_pos c_6_2 h
        refine lv_tableIn (off := 58) (tgt := 64) Γ.1.1 Γ.1.2.1 dX12_now_6 (by rw [c_6_2]; decide) (by rw [c_6_2]; decide) (by rw [c_6_2]; decide) (by decide) ?_
        refine lv_aload_n Γ.1.1 Γ.1.2.1 dX12_now_64 rfl (lv_at hl 0 rfl) ?_
        refine get_X12_now Γ hI gw_244 dX12_now_65 ?_
        refine lv_sipush (v := (4095 : Int32)) Γ.1.1 Γ.1.2.1 dX12_now_68 (by decide) ?_
        obtain ⟨r_5, hr_5, h⟩ := ob_some h
        refine g_ci Γ hI (g_runS (As := [.ref (X.2.1 + 62), .int (4095 : Int32)]) Γ hI (S_X12_lineMany l X σ_1 62 sh_62 (4095 : Int32) r_5 hr_5) mf_X12_lineMany gw_241 rfl rfl ⟨Nat.le_of_ble_eq_true rfl, Nat.le_of_ble_eq_true rfl⟩ rfl hl.1 rfl (Nat.le_of_ble_eq_true rfl) dX12_now_71 ⟨Nat.zero_le _, Nat.zero_le _⟩) (fun H locs hI => ?_)
        clear hr_5
        exact g_iret Γ hI dX12_now_74 (Prod.mk.inj (Option.some.inj h)).1 (Prod.mk.inj (Option.some.inj h)).2
      · replace h := ite_neg c_6_2 h
        by_cases c_6_3 : v1 = (3 : Int32)
        · replace h := ite_pos c_6_3 h
          refine lv_tableIn (off := 69) (tgt := 75) Γ.1.1 Γ.1.2.1 dX12_now_6 (by rw [c_6_3]; decide) (by rw [c_6_3]; decide) (by rw [c_6_3]; decide) (by decide) ?_
          refine lv_aload_n Γ.1.1 Γ.1.2.1 dX12_now_75 rfl (lv_at hl 0 rfl) ?_
          refine get_X12_now Γ hI gw_244 dX12_now_76 ?_
          refine lv_iconst (v := (2 : Int32)) Γ.1.1 Γ.1.2.1 dX12_now_79 (by decide) ?_
          obtain ⟨hb_7, h⟩ := bnd_some h
          refine g_iald Γ hI sh_62 hb_7 dX12_now_80 ?_
          exact g_iret Γ hI dX12_now_81 (Prod.mk.inj (Option.some.inj h)).1 (Prod.mk.inj (Option.some.inj h)).2
        · replace h := ite_neg c_6_3 h
          by_cases c_6_4 : v1 = (4 : Int32)
          · replace h := ite_pos c_6_4 h
            refine lv_tableIn (off := 76) (tgt := 82) Γ.1.1 Γ.1.2.1 dX12_now_6 (by rw [c_6_4]; decide) (by rw [c_6_4]; decide) (by rw [c_6_4]; decide) (by decide) ?_
            refine lv_aload_n Γ.1.1 Γ.1.2.1 dX12_now_82 rfl (lv_at hl 0 rfl) ?_
            refine lv_aload_n Γ.1.1 Γ.1.2.1 dX12_now_83 rfl (lv_at hl 0 rfl) ?_
            obtain ⟨r_8, hr_8, h⟩ := ob_some h
            refine g_ci Γ hI (g_runV (As := []) Γ hI (S_X12_there l X σ_1 r_8 hr_8) mf_X12_there (recv_X12 Γ hI) gw_250 rfl rfl ⟨Nat.le_of_ble_eq_true rfl, Nat.le_of_ble_eq_true rfl⟩ rfl hl.1 rfl (Nat.le_of_ble_eq_true rfl) dX12_now_84 ⟨Nat.zero_le _, Nat.zero_le _⟩) (fun H locs hI => ?_)
            clear hr_8
            obtain ⟨r_10, hr_10, h⟩ := ob_some h
            refine g_ci Γ hI (g_runV (As := [.int r_8]) Γ hI (S_X12_parts l X σ_1 r_8 r_10 hr_10) mf_X12_parts (recv_X12 Γ hI) gw_253 rfl rfl ⟨Nat.le_of_ble_eq_true rfl, Nat.le_of_ble_eq_true rfl⟩ rfl hl.1 rfl (Nat.le_of_ble_eq_true rfl) dX12_now_87 ⟨Nat.zero_le _, Nat.zero_le _⟩) (fun H locs hI => ?_)
            clear hr_10
            exact g_iret Γ hI dX12_now_90 (Prod.mk.inj (Option.some.inj h)).1 (Prod.mk.inj (Option.some.inj h)).2
          · replace h := ite_neg c_6_4 h
            by_cases c_6_5 : v1 = (5 : Int32)
            · replace h := ite_pos c_6_5 h
              refine lv_tableIn (off := 85) (tgt := 91) Γ.1.1 Γ.1.2.1 dX12_now_6 (by rw [c_6_5]; decide) (by rw [c_6_5]; decide) (by rw [c_6_5]; decide) (by decide) ?_
              refine lv_aload_n Γ.1.1 Γ.1.2.1 dX12_now_91 rfl (lv_at hl 0 rfl) ?_
              refine lv_aload_n Γ.1.1 Γ.1.2.1 dX12_now_92 rfl (lv_at hl 0 rfl) ?_
              obtain ⟨r_12, hr_12, h⟩ := ob_some h
              refine g_ci Γ hI (g_runV (As := []) Γ hI (S_X12_there l X σ_1 r_12 hr_12) mf_X12_there (recv_X12 Γ hI) gw_250 rfl rfl ⟨Nat.le_of_ble_eq_true rfl, Nat.le_of_ble_eq_true rfl⟩ rfl hl.1 rfl (Nat.le_of_ble_eq_true rfl) dX12_now_93 ⟨Nat.zero_le _, Nat.zero_le _⟩) (fun H locs hI => ?_)
              clear hr_12
              obtain ⟨r_14, hr_14, h⟩ := ob_some h
              refine g_ci Γ hI (g_runV (As := [.int r_12]) Γ hI (S_X12_weightOf l X σ_1 r_12 r_14 hr_14) mf_X12_weightOf (recv_X12 Γ hI) gw_254 rfl rfl ⟨Nat.le_of_ble_eq_true rfl, Nat.le_of_ble_eq_true rfl⟩ rfl hl.1 rfl (Nat.le_of_ble_eq_true rfl) dX12_now_96 ⟨Nat.zero_le _, Nat.zero_le _⟩) (fun H locs hI => ?_)
              clear hr_14
              exact g_iret Γ hI dX12_now_99 (Prod.mk.inj (Option.some.inj h)).1 (Prod.mk.inj (Option.some.inj h)).2
            · replace h := ite_neg c_6_5 h
              by_cases c_6_6 : v1 = (6 : Int32)
              · replace h := ite_pos c_6_6 h
                refine lv_tableIn (off := 94) (tgt := 100) Γ.1.1 Γ.1.2.1 dX12_now_6 (by rw [c_6_6]; decide) (by rw [c_6_6]; decide) (by rw [c_6_6]; decide) (by decide) ?_
                refine lv_aload_n Γ.1.1 Γ.1.2.1 dX12_now_100 rfl (lv_at hl 0 rfl) ?_
                refine get_X12_snapMany Γ hI gw_246 dX12_now_101 ?_
                exact g_iret Γ hI dX12_now_104 (Prod.mk.inj (Option.some.inj h)).1 (Prod.mk.inj (Option.some.inj h)).2
              · replace h := ite_neg c_6_6 h
                by_cases c_6_7 : v1 = (7 : Int32)
                · replace h := ite_pos c_6_7 h
                  refine lv_tableIn (off := 99) (tgt := 105) Γ.1.1 Γ.1.2.1 dX12_now_6 (by rw [c_6_7]; decide) (by rw [c_6_7]; decide) (by rw [c_6_7]; decide) (by decide) ?_
                  refine lv_aload_n Γ.1.1 Γ.1.2.1 dX12_now_105 rfl (lv_at hl 0 rfl) ?_
                  refine get_X12_taped Γ hI gw_214 dX12_now_106 ?_
                  exact g_iret Γ hI dX12_now_109 (Prod.mk.inj (Option.some.inj h)).1 (Prod.mk.inj (Option.some.inj h)).2
                · replace h := ite_neg c_6_7 h
                  have hq0 : ¬ v1.toInt = 0 := lv_neT c_6_0 (by decide)
                  have hq1 : ¬ v1.toInt = 1 := lv_neT c_6_1 (by decide)
                  have hq2 : ¬ v1.toInt = 2 := lv_neT c_6_2 (by decide)
                  have hq3 : ¬ v1.toInt = 3 := lv_neT c_6_3 (by decide)
                  have hq4 : ¬ v1.toInt = 4 := lv_neT c_6_4 (by decide)
                  have hq5 : ¬ v1.toInt = 5 := lv_neT c_6_5 (by decide)
                  have hq6 : ¬ v1.toInt = 6 := lv_neT c_6_6 (by decide)
                  have hq7 : ¬ v1.toInt = 7 := lv_neT c_6_7 (by decide)
                  refine lv_tableOut (tgt := 110) Γ.1.1 Γ.1.2.1 dX12_now_6 (by omega) (by decide) ?_
                  clear hq0 hq1 hq2 hq3 hq4 hq5 hq6 hq7
                  refine lv_iconst (v := (-1 : Int32)) Γ.1.1 Γ.1.2.1 dX12_now_110 (by decide) ?_
                  exact g_iret Γ hI dX12_now_111 (Prod.mk.inj (Option.some.inj h)).1 (Prod.mk.inj (Option.some.inj h)).2
set_option maxRecDepth 20000 in
set_option maxHeartbeats 4000000 in
theorem s_X12_point_L81 {p : Program} {l : Launch} {e : Env} {s : State} {m : MethodId} {args : Array Value} {below : List Frame} {meth : Method} {c : Code} {X : GX} (σr : GM) (x : Int32) (Γ : gC X p m meth c cX12_point 5 s args RX12 (some .int)) (v1 : Int32) :
    ∀ (k : Nat) (σ : GM) (v3 : Int32) (v4 : Int32) (H : Heap) (locs : List Loc) (ls : Array Slot), gI X σ s H locs → lv_has ls 5 [(0, .ref (X.2.1 + 60)), (1, .int v1), (3, .int v3), (4, .int v4)] → f_X12_point_L81 v1 k σ v3 v4 = some (σr, x) →
    W p l e ({ frames := 3, cells := 0, slots := 0, locals := 67 } : Room) s m args below meth c H locs 0 0 (MQ below (gQi X σr x) args s 0 0 (gA X)) (F0 m 81 ls []) := by
  intro k
  induction k with
  | zero =>
    intro σ v3 v4 H locs ls hI hl h
    exact absurd h (by simp [f_X12_point_L81])
  | succ k ih =>
    intro σ v3 v4 H locs ls hI hl h
    unfold f_X12_point_L81 at h
    refine lv_iload Γ.1.1 Γ.1.2.1 dX12_point_81 (lv_at hl 3 rfl) ?_
    refine lv_bipush (v := (12 : Int32)) Γ.1.1 Γ.1.2.1 dX12_point_83 (by decide) ?_
    refine lv_icmp_ge (tgt := 120) Γ.1.1 Γ.1.2.1 dX12_point_85 (by decide) (fun c_11 => ?_) (fun c_11 => ?_)
    · replace h := ite_pos c_11 h; clear c_11
      refine lv_iload_n Γ.1.1 Γ.1.2.1 dX12_point_120 rfl (lv_at hl 2 rfl) ?_
      exact g_iret Γ hI dX12_point_121 (Prod.mk.inj (Option.some.inj h)).1 (Prod.mk.inj (Option.some.inj h)).2
    · replace h := ite_neg c_11 h; clear c_11
      refine lv_iload Γ.1.1 Γ.1.2.1 dX12_point_88 (lv_at hl 3 rfl) ?_
      refine lv_iload_n Γ.1.1 Γ.1.2.1 dX12_point_90 rfl (lv_at hl 1 rfl) ?_
      refine lv_icmp_eq (tgt := 114) Γ.1.1 Γ.1.2.1 dX12_point_91 (by decide) (fun c_12 => ?_) (fun c_12 => ?_)
      · replace h := ite_pos c_12 h; clear c_12
        obtain ⟨v4_13, e_v4_13, h⟩ := nm_some h
        refine lv_iinc (v := v4_13) (lv' := [(4, .int v4_13), (0, .ref (X.2.1 + 60)), (1, .int v1), (3, .int v3)]) Γ.1.1 Γ.1.2.1 dX12_point_114 hl (k := 3) rfl (by rw [e_v4_13]; rfl) (by decide) rfl (fun ls hl => ?_)
        clear e_v4_13
        refine lv_goto (tgt := 81) Γ.1.1 Γ.1.2.1 dX12_point_117 (by decide) ?_
        exact ih σ v3 v4_13 _ _ _ hI (lv_sub hl [1, 2, 3, 0] rfl) h
      · replace h := ite_neg c_12 h; clear c_12
        refine lv_aload_n Γ.1.1 Γ.1.2.1 dX12_point_94 rfl (lv_at hl 0 rfl) ?_
        refine get_X12_now Γ hI gw_244 dX12_point_95 ?_
        refine lv_iload_n Γ.1.1 Γ.1.2.1 dX12_point_98 rfl (lv_at hl 1 rfl) ?_
        refine lv_iload Γ.1.1 Γ.1.2.1 dX12_point_99 (lv_at hl 3 rfl) ?_
        obtain ⟨r_14, hr_14, h⟩ := ob_some h
        refine g_ci Γ hI (g_runS (As := [.ref (X.2.1 + 62), .int v1, .int v4]) Γ hI (S_X12_between l X σ 62 sh_62 v1 v4 r_14 hr_14) mf_X12_between gw_232 rfl rfl ⟨Nat.le_of_ble_eq_true rfl, Nat.le_of_ble_eq_true rfl⟩ rfl hl.1 rfl (Nat.le_of_ble_eq_true rfl) dX12_point_101 ⟨Nat.zero_le _, Nat.zero_le _⟩) (fun H locs hI => ?_)
        clear hr_14
        refine lv_if_le (tgt := 114) Γ.1.1 Γ.1.2.1 dX12_point_104 (by decide) (fun c_16 => ?_) (fun c_16 => ?_)
        · replace h := ite_pos c_16 h; clear c_16
          obtain ⟨v4_17, e_v4_17, h⟩ := nm_some h
          refine lv_iinc (v := v4_17) (lv' := [(4, .int v4_17), (0, .ref (X.2.1 + 60)), (1, .int v1), (3, .int v3)]) Γ.1.1 Γ.1.2.1 dX12_point_114 hl (k := 3) rfl (by rw [e_v4_17]; rfl) (by decide) rfl (fun ls hl => ?_)
          clear e_v4_17
          refine lv_goto (tgt := 81) Γ.1.1 Γ.1.2.1 dX12_point_117 (by decide) ?_
          exact ih σ v3 v4_17 _ _ _ hI (lv_sub hl [1, 2, 3, 0] rfl) h
        · replace h := ite_neg c_16 h; clear c_16
          refine lv_iload_n Γ.1.1 Γ.1.2.1 dX12_point_107 rfl (lv_at hl 2 rfl) ?_
          refine lv_iconst (v := (1 : Int32)) Γ.1.1 Γ.1.2.1 dX12_point_108 (by decide) ?_
          refine lv_iload Γ.1.1 Γ.1.2.1 dX12_point_109 (lv_at hl 3 rfl) ?_
          refine lv_ishl Γ.1.1 Γ.1.2.1 dX12_point_111 ?_
          refine lv_ior Γ.1.1 Γ.1.2.1 dX12_point_112 ?_
          refine lv_topi (fun v3_18 e_v3_18 => ?_)
          replace h := nm_at e_v3_18 h; clear e_v3_18
          refine lv_istore_n (lv' := [(3, .int v3_18), (0, .ref (X.2.1 + 60)), (1, .int v1), (4, .int v4)]) Γ.1.1 Γ.1.2.1 dX12_point_113 rfl hl (by decide) rfl (fun ls hl => ?_)
          obtain ⟨v4_19, e_v4_19, h⟩ := nm_some h
          refine lv_iinc (v := v4_19) (lv' := [(4, .int v4_19), (3, .int v3_18), (0, .ref (X.2.1 + 60)), (1, .int v1)]) Γ.1.1 Γ.1.2.1 dX12_point_114 hl (k := 3) rfl (by rw [e_v4_19]; rfl) (by decide) rfl (fun ls hl => ?_)
          clear e_v4_19
          refine lv_goto (tgt := 81) Γ.1.1 Γ.1.2.1 dX12_point_117 (by decide) ?_
          exact ih σ v3_18 v4_19 _ _ _ hI (lv_sub hl [2, 3, 1, 0] rfl) h
set_option maxRecDepth 20000 in
set_option maxHeartbeats 4000000 in
theorem S_X12_point (l : Launch) (X : GX) (σ : GM) (v1 : Int32) (v2 : Int32) (σr : GM) (x : Int32) (h : f_X12_point σ v1 v2 = some (σr, x)) : gMet l yX12_point cX12_point 5 (some .int) ({ frames := 3, cells := 0, slots := 0, locals := 67 } : Room) X σ [.ref (X.2.1 + 60), .int v1, .int v2] (gQi X σr x) := by
  unfold f_X12_point at h
  refine gMet_of (lv := [(0, .ref (X.2.1 + 60)), (1, .int v1), (2, .int v2)]) (by decide) rfl (Nat.le_of_ble_eq_true rfl) rfl (fun p e s m below meth c H ls Γ hI hl => ?_)
  refine lv_aload_n Γ.1.1 Γ.1.2.1 dX12_point_0 rfl (lv_at hl 0 rfl) ?_
  refine lv_iconst (v := (0 : Int32)) Γ.1.1 Γ.1.2.1 dX12_point_1 (by decide) ?_
  refine put_X12_thrown Γ hI gw_211 dX12_point_2 (fun H locs hI => ?_)
  obtain ⟨σ_1, e_m_1, h⟩ := nm_some h
  rw [← e_m_1] at hI; clear e_m_1
  refine lv_aload_n Γ.1.1 Γ.1.2.1 dX12_point_5 rfl (lv_at hl 0 rfl) ?_
  refine lv_iload_n Γ.1.1 Γ.1.2.1 dX12_point_6 rfl (lv_at hl 1 rfl) ?_
  obtain ⟨r_2, hr_2, h⟩ := ob_some h
  refine g_ci Γ hI (g_runV (As := [.int v1]) Γ hI (S_X12_isThere l X σ_1 v1 r_2 hr_2) mf_X12_isThere (recv_X12 Γ hI) gw_255 rfl rfl ⟨Nat.le_of_ble_eq_true rfl, Nat.le_of_ble_eq_true rfl⟩ rfl hl.1 rfl (Nat.le_of_ble_eq_true rfl) dX12_point_7 ⟨Nat.zero_le _, Nat.zero_le _⟩) (fun H locs hI => ?_)
  clear hr_2
  refine lv_if_ne (tgt := 18) Γ.1.1 Γ.1.2.1 dX12_point_10 (by decide) (fun c_4 => ?_) (fun c_4 => ?_)
  · replace h := ite_neg c_4 h; clear c_4
    refine lv_iload_n Γ.1.1 Γ.1.2.1 dX12_point_18 rfl (lv_at hl 2 rfl) ?_
    by_cases c_19_0 : v2 = (0 : Int32)
    · replace h := ite_pos c_19_0 h
      refine lv_tableIn (off := 29) (tgt := 48) Γ.1.1 Γ.1.2.1 dX12_point_19 (by rw [c_19_0]; decide) (by rw [c_19_0]; decide) (by rw [c_19_0]; decide) (by decide) ?_
      refine lv_aload_n Γ.1.1 Γ.1.2.1 dX12_point_48 rfl (lv_at hl 0 rfl) ?_
      refine get_X12_now Γ hI gw_244 dX12_point_49 ?_
      refine lv_iconst (v := (3 : Int32)) Γ.1.1 Γ.1.2.1 dX12_point_52 (by decide) ?_
      refine lv_iload_n Γ.1.1 Γ.1.2.1 dX12_point_53 rfl (lv_at hl 1 rfl) ?_
      refine lv_iadd Γ.1.1 Γ.1.2.1 dX12_point_54 ?_
      refine lv_topi (fun i_5 e_i_5 => ?_)
      replace h := nm_at e_i_5 h; clear e_i_5
      obtain ⟨hb_6, h⟩ := bnd_some h
      refine g_iald Γ hI sh_62 hb_6 dX12_point_55 ?_
      exact g_iret Γ hI dX12_point_56 (Prod.mk.inj (Option.some.inj h)).1 (Prod.mk.inj (Option.some.inj h)).2
    · replace h := ite_neg c_19_0 h
      by_cases c_19_1 : v2 = (1 : Int32)
      · replace h := ite_pos c_19_1 h
        refine lv_tableIn (off := 38) (tgt := 57) Γ.1.1 Γ.1.2.1 dX12_point_19 (by rw [c_19_1]; decide) (by rw [c_19_1]; decide) (by rw [c_19_1]; decide) (by decide) ?_
        refine lv_aload_n Γ.1.1 Γ.1.2.1 dX12_point_57 rfl (lv_at hl 0 rfl) ?_
        refine get_X12_now Γ hI gw_244 dX12_point_58 ?_
        refine lv_iload_n Γ.1.1 Γ.1.2.1 dX12_point_61 rfl (lv_at hl 1 rfl) ?_
        obtain ⟨r_7, hr_7, h⟩ := ob_some h
        refine g_ci Γ hI (g_runS (As := [.ref (X.2.1 + 62), .int v1]) Γ hI (S_X12_allEnds l X σ_1 62 sh_62 v1 r_7 hr_7) mf_X12_allEnds gw_242 rfl rfl ⟨Nat.le_of_ble_eq_true rfl, Nat.le_of_ble_eq_true rfl⟩ rfl hl.1 rfl (Nat.le_of_ble_eq_true rfl) dX12_point_62 ⟨Nat.zero_le _, Nat.zero_le _⟩) (fun H locs hI => ?_)
        clear hr_7
        exact g_iret Γ hI dX12_point_65 (Prod.mk.inj (Option.some.inj h)).1 (Prod.mk.inj (Option.some.inj h)).2
      · replace h := ite_neg c_19_1 h
        by_cases c_19_2 : v2 = (2 : Int32)
        · replace h := ite_pos c_19_2 h
          refine lv_tableIn (off := 47) (tgt := 66) Γ.1.1 Γ.1.2.1 dX12_point_19 (by rw [c_19_2]; decide) (by rw [c_19_2]; decide) (by rw [c_19_2]; decide) (by decide) ?_
          refine lv_aload_n Γ.1.1 Γ.1.2.1 dX12_point_66 rfl (lv_at hl 0 rfl) ?_
          refine get_X12_now Γ hI gw_244 dX12_point_67 ?_
          refine lv_iload_n Γ.1.1 Γ.1.2.1 dX12_point_70 rfl (lv_at hl 1 rfl) ?_
          refine lv_iload_n Γ.1.1 Γ.1.2.1 dX12_point_71 rfl (lv_at hl 1 rfl) ?_
          obtain ⟨r_9, hr_9, h⟩ := ob_some h
          refine g_ci Γ hI (g_runS (As := [.ref (X.2.1 + 62), .int v1, .int v1]) Γ hI (S_X12_between l X σ_1 62 sh_62 v1 v1 r_9 hr_9) mf_X12_between gw_232 rfl rfl ⟨Nat.le_of_ble_eq_true rfl, Nat.le_of_ble_eq_true rfl⟩ rfl hl.1 rfl (Nat.le_of_ble_eq_true rfl) dX12_point_72 ⟨Nat.zero_le _, Nat.zero_le _⟩) (fun H locs hI => ?_)
          clear hr_9
          exact g_iret Γ hI dX12_point_75 (Prod.mk.inj (Option.some.inj h)).1 (Prod.mk.inj (Option.some.inj h)).2
        · replace h := ite_neg c_19_2 h
          by_cases c_19_3 : v2 = (3 : Int32)
          · replace h := ite_pos c_19_3 h
            refine lv_tableIn (off := 57) (tgt := 76) Γ.1.1 Γ.1.2.1 dX12_point_19 (by rw [c_19_3]; decide) (by rw [c_19_3]; decide) (by rw [c_19_3]; decide) (by decide) ?_
            refine lv_iconst (v := (0 : Int32)) Γ.1.1 Γ.1.2.1 dX12_point_76 (by decide) ?_
            refine lv_istore_n (lv' := [(3, .int (0 : Int32)), (0, .ref (X.2.1 + 60)), (1, .int v1), (2, .int v2)]) Γ.1.1 Γ.1.2.1 dX12_point_77 rfl hl (by decide) rfl (fun ls hl => ?_)
            refine lv_iconst (v := (0 : Int32)) Γ.1.1 Γ.1.2.1 dX12_point_78 (by decide) ?_
            refine lv_istore (lv' := [(4, .int (0 : Int32)), (3, .int (0 : Int32)), (0, .ref (X.2.1 + 60)), (1, .int v1), (2, .int v2)]) Γ.1.1 Γ.1.2.1 dX12_point_79 hl (by decide) rfl (fun ls hl => ?_)
            exact s_X12_point_L81 σr x Γ v1 _ σ_1 (0 : Int32) (0 : Int32) _ _ _ hI (lv_sub hl [2, 3, 1, 0] rfl) h
          · replace h := ite_neg c_19_3 h
            have hq0 : ¬ v2.toInt = 0 := lv_neT c_19_0 (by decide)
            have hq1 : ¬ v2.toInt = 1 := lv_neT c_19_1 (by decide)
            have hq2 : ¬ v2.toInt = 2 := lv_neT c_19_2 (by decide)
            have hq3 : ¬ v2.toInt = 3 := lv_neT c_19_3 (by decide)
            refine lv_tableOut (tgt := 122) Γ.1.1 Γ.1.2.1 dX12_point_19 (by omega) (by decide) ?_
            clear hq0 hq1 hq2 hq3
            refine lv_aload_n Γ.1.1 Γ.1.2.1 dX12_point_122 rfl (lv_at hl 0 rfl) ?_
            obtain ⟨σ_21, r_20, hr_20, h⟩ := ob2_some h
            refine g_ci Γ hI (g_runV (As := []) Γ hI (S_X12_refuse l X σ_1 σ_21 r_20 hr_20) mf_X12_refuse (recv_X12 Γ hI) gw_256 rfl rfl ⟨Nat.le_of_ble_eq_true rfl, Nat.le_of_ble_eq_true rfl⟩ rfl hl.1 rfl (Nat.le_of_ble_eq_true rfl) dX12_point_123 ⟨Nat.zero_le _, Nat.zero_le _⟩) (fun H locs hI => ?_)
            clear hr_20
            exact g_iret Γ hI dX12_point_126 (Prod.mk.inj (Option.some.inj h)).1 (Prod.mk.inj (Option.some.inj h)).2
  · replace h := ite_pos c_4 h; clear c_4
    refine lv_aload_n Γ.1.1 Γ.1.2.1 dX12_point_13 rfl (lv_at hl 0 rfl) ?_
    obtain ⟨σ_23, r_22, hr_22, h⟩ := ob2_some h
    refine g_ci Γ hI (g_runV (As := []) Γ hI (S_X12_refuse l X σ_1 σ_23 r_22 hr_22) mf_X12_refuse (recv_X12 Γ hI) gw_256 rfl rfl ⟨Nat.le_of_ble_eq_true rfl, Nat.le_of_ble_eq_true rfl⟩ rfl hl.1 rfl (Nat.le_of_ble_eq_true rfl) dX12_point_14 ⟨Nat.zero_le _, Nat.zero_le _⟩) (fun H locs hI => ?_)
    clear hr_22
    exact g_iret Γ hI dX12_point_17 (Prod.mk.inj (Option.some.inj h)).1 (Prod.mk.inj (Option.some.inj h)).2
set_option maxRecDepth 20000 in
set_option maxHeartbeats 4000000 in
theorem S_X12_lines (l : Launch) (X : GX) (σ : GM) (v1 : Int32) (v2 : Int32) (σr : GM) (x : Int32) (h : f_X12_lines σ v1 v2 = some (σr, x)) : gMet l yX12_lines cX12_lines 3 (some .int) ({ frames := 2, cells := 0, slots := 0, locals := 43 } : Room) X σ [.ref (X.2.1 + 60), .int v1, .int v2] (gQi X σr x) := by
  unfold f_X12_lines at h
  refine gMet_of (lv := [(0, .ref (X.2.1 + 60)), (1, .int v1), (2, .int v2)]) (by decide) rfl (Nat.le_of_ble_eq_true rfl) rfl (fun p e s m below meth c H ls Γ hI hl => ?_)
  refine lv_aload_n Γ.1.1 Γ.1.2.1 dX12_lines_0 rfl (lv_at hl 0 rfl) ?_
  refine lv_iconst (v := (0 : Int32)) Γ.1.1 Γ.1.2.1 dX12_lines_1 (by decide) ?_
  refine put_X12_thrown Γ hI gw_211 dX12_lines_2 (fun H locs hI => ?_)
  obtain ⟨σ_1, e_m_1, h⟩ := nm_some h
  rw [← e_m_1] at hI; clear e_m_1
  refine lv_aload_n Γ.1.1 Γ.1.2.1 dX12_lines_5 rfl (lv_at hl 0 rfl) ?_
  refine lv_iload_n Γ.1.1 Γ.1.2.1 dX12_lines_6 rfl (lv_at hl 1 rfl) ?_
  obtain ⟨r_2, hr_2, h⟩ := ob_some h
  refine g_ci Γ hI (g_runV (As := [.int v1]) Γ hI (S_X12_isThere l X σ_1 v1 r_2 hr_2) mf_X12_isThere (recv_X12 Γ hI) gw_255 rfl rfl ⟨Nat.le_of_ble_eq_true rfl, Nat.le_of_ble_eq_true rfl⟩ rfl hl.1 rfl (Nat.le_of_ble_eq_true rfl) dX12_lines_7 ⟨Nat.zero_le _, Nat.zero_le _⟩) (fun H locs hI => ?_)
  clear hr_2
  refine lv_if_eq (tgt := 33) Γ.1.1 Γ.1.2.1 dX12_lines_10 (by decide) (fun c_4 => ?_) (fun c_4 => ?_)
  · replace h := ite_pos c_4 h; clear c_4
    refine lv_iconst (v := (-1 : Int32)) Γ.1.1 Γ.1.2.1 dX12_lines_33 (by decide) ?_
    exact g_iret Γ hI dX12_lines_34 (Prod.mk.inj (Option.some.inj h)).1 (Prod.mk.inj (Option.some.inj h)).2
  · replace h := ite_neg c_4 h; clear c_4
    refine lv_aload_n Γ.1.1 Γ.1.2.1 dX12_lines_13 rfl (lv_at hl 0 rfl) ?_
    refine lv_iload_n Γ.1.1 Γ.1.2.1 dX12_lines_14 rfl (lv_at hl 2 rfl) ?_
    obtain ⟨r_5, hr_5, h⟩ := ob_some h
    refine g_ci Γ hI (g_runV (As := [.int v2]) Γ hI (S_X12_isThere l X σ_1 v2 r_5 hr_5) mf_X12_isThere (recv_X12 Γ hI) gw_255 rfl rfl ⟨Nat.le_of_ble_eq_true rfl, Nat.le_of_ble_eq_true rfl⟩ rfl hl.1 rfl (Nat.le_of_ble_eq_true rfl) dX12_lines_15 ⟨Nat.zero_le _, Nat.zero_le _⟩) (fun H locs hI => ?_)
    clear hr_5
    refine lv_if_eq (tgt := 33) Γ.1.1 Γ.1.2.1 dX12_lines_18 (by decide) (fun c_7 => ?_) (fun c_7 => ?_)
    · replace h := ite_pos c_7 h; clear c_7
      refine lv_iconst (v := (-1 : Int32)) Γ.1.1 Γ.1.2.1 dX12_lines_33 (by decide) ?_
      exact g_iret Γ hI dX12_lines_34 (Prod.mk.inj (Option.some.inj h)).1 (Prod.mk.inj (Option.some.inj h)).2
    · replace h := ite_neg c_7 h; clear c_7
      refine lv_aload_n Γ.1.1 Γ.1.2.1 dX12_lines_21 rfl (lv_at hl 0 rfl) ?_
      refine get_X12_now Γ hI gw_244 dX12_lines_22 ?_
      refine lv_iload_n Γ.1.1 Γ.1.2.1 dX12_lines_25 rfl (lv_at hl 1 rfl) ?_
      refine lv_iload_n Γ.1.1 Γ.1.2.1 dX12_lines_26 rfl (lv_at hl 2 rfl) ?_
      obtain ⟨r_8, hr_8, h⟩ := ob_some h
      refine g_ci Γ hI (g_runS (As := [.ref (X.2.1 + 62), .int v1, .int v2]) Γ hI (S_X12_between l X σ_1 62 sh_62 v1 v2 r_8 hr_8) mf_X12_between gw_232 rfl rfl ⟨Nat.le_of_ble_eq_true rfl, Nat.le_of_ble_eq_true rfl⟩ rfl hl.1 rfl (Nat.le_of_ble_eq_true rfl) dX12_lines_27 ⟨Nat.zero_le _, Nat.zero_le _⟩) (fun H locs hI => ?_)
      clear hr_8
      refine lv_goto (tgt := 34) Γ.1.1 Γ.1.2.1 dX12_lines_30 (by decide) ?_
      exact g_iret Γ hI dX12_lines_34 (Prod.mk.inj (Option.some.inj h)).1 (Prod.mk.inj (Option.some.inj h)).2
set_option maxRecDepth 20000 in
set_option maxHeartbeats 4000000 in
theorem S_X12_isOpen (l : Launch) (X : GX) (σ : GM) (v1 : Int32) (x : Int32) (h : f_X12_isOpen σ v1 = some x) : gMet l yX12_isOpen cX12_isOpen 2 (some .boolean) ({ frames := 3, cells := 0, slots := 0, locals := 71 } : Room) X σ [.ref (X.2.1 + 60), .int v1] (gQi X σ x) := by
  unfold f_X12_isOpen at h
  refine gMet_of (lv := [(0, .ref (X.2.1 + 60)), (1, .int v1)]) (by decide) rfl (Nat.le_of_ble_eq_true rfl) rfl (fun p e s m below meth c H ls Γ hI hl => ?_)
  refine lv_aload_n Γ.1.1 Γ.1.2.1 dX12_isOpen_0 rfl (lv_at hl 0 rfl) ?_
  refine get_X12_now Γ hI gw_244 dX12_isOpen_1 ?_
  refine lv_iload_n Γ.1.1 Γ.1.2.1 dX12_isOpen_4 rfl (lv_at hl 1 rfl) ?_
  obtain ⟨r_1, hr_1, h⟩ := ob_some h
  refine g_ci Γ hI (g_runS (As := [.ref (X.2.1 + 62), .int v1]) Γ hI (S_X12_lineMany l X σ 62 sh_62 v1 r_1 hr_1) mf_X12_lineMany gw_241 rfl rfl ⟨Nat.le_of_ble_eq_true rfl, Nat.le_of_ble_eq_true rfl⟩ rfl hl.1 rfl (Nat.le_of_ble_eq_true rfl) dX12_isOpen_5 ⟨Nat.zero_le _, Nat.zero_le _⟩) (fun H locs hI => ?_)
  clear hr_1
  refine lv_iload_n Γ.1.1 Γ.1.2.1 dX12_isOpen_8 rfl (lv_at hl 1 rfl) ?_
  obtain ⟨r_3, hr_3, h⟩ := ob_some h
  refine g_ci Γ hI (g_runS (As := [.int v1]) Γ hI (S_X12_bits l X σ v1 r_3 hr_3) mf_X12_bits gw_257 rfl rfl ⟨Nat.le_of_ble_eq_true rfl, Nat.le_of_ble_eq_true rfl⟩ rfl hl.1 rfl (Nat.le_of_ble_eq_true rfl) dX12_isOpen_9 ⟨Nat.zero_le _, Nat.zero_le _⟩) (fun H locs hI => ?_)
  clear hr_3
  refine lv_aload_n Γ.1.1 Γ.1.2.1 dX12_isOpen_12 rfl (lv_at hl 0 rfl) ?_
  refine lv_iload_n Γ.1.1 Γ.1.2.1 dX12_isOpen_13 rfl (lv_at hl 1 rfl) ?_
  obtain ⟨r_5, hr_5, h⟩ := ob_some h
  refine g_ci Γ hI (g_runV (As := [.int v1]) Γ hI (S_X12_parts l X σ v1 r_5 hr_5) mf_X12_parts (recv_X12 Γ hI) gw_253 rfl rfl ⟨Nat.le_of_ble_eq_true rfl, Nat.le_of_ble_eq_true rfl⟩ rfl hl.1 rfl (Nat.le_of_ble_eq_true rfl) dX12_isOpen_14 ⟨Nat.zero_le _, Nat.zero_le _⟩) (fun H locs hI => ?_)
  clear hr_5
  refine lv_isub Γ.1.1 Γ.1.2.1 dX12_isOpen_17 ?_
  refine lv_icmp_ne (tgt := 25) Γ.1.1 Γ.1.2.1 dX12_isOpen_18 (by decide) (fun c_7 => ?_) (fun c_7 => ?_)
  · replace h := ite_neg c_7 h; clear c_7
    refine lv_iconst (v := (0 : Int32)) Γ.1.1 Γ.1.2.1 dX12_isOpen_25 (by decide) ?_
    exact g_zret Γ hI dX12_isOpen_26 rfl (Option.some.inj h)
  · replace h := ite_pos c_7 h; clear c_7
    refine lv_iconst (v := (1 : Int32)) Γ.1.1 Γ.1.2.1 dX12_isOpen_21 (by decide) ?_
    refine lv_goto (tgt := 26) Γ.1.1 Γ.1.2.1 dX12_isOpen_22 (by decide) ?_
    exact g_zret Γ hI dX12_isOpen_26 rfl (Option.some.inj h)
set_option maxRecDepth 20000 in
set_option maxHeartbeats 4000000 in
theorem S_X12_isCut (l : Launch) (X : GX) (σ : GM) (v1 : Int32) (v2 : Int32) (x : Int32) (h : f_X12_isCut σ v1 v2 = some x) : gMet l yX12_isCut cX12_isCut 3 (some .boolean) ({ frames := 4, cells := 0, slots := 0, locals := 92 } : Room) X σ [.ref (X.2.1 + 60), .int v1, .int v2] (gQi X σ x) := by
  unfold f_X12_isCut at h
  refine gMet_of (lv := [(0, .ref (X.2.1 + 60)), (1, .int v1), (2, .int v2)]) (by decide) rfl (Nat.le_of_ble_eq_true rfl) rfl (fun p e s m below meth c H ls Γ hI hl => ?_)
  refine lv_aload_n Γ.1.1 Γ.1.2.1 dX12_isCut_0 rfl (lv_at hl 0 rfl) ?_
  refine lv_iload_n Γ.1.1 Γ.1.2.1 dX12_isCut_1 rfl (lv_at hl 2 rfl) ?_
  refine lv_iload_n Γ.1.1 Γ.1.2.1 dX12_isCut_2 rfl (lv_at hl 1 rfl) ?_
  refine lv_iconst (v := (-1 : Int32)) Γ.1.1 Γ.1.2.1 dX12_isCut_3 (by decide) ?_
  refine lv_ixor Γ.1.1 Γ.1.2.1 dX12_isCut_4 ?_
  refine lv_iand Γ.1.1 Γ.1.2.1 dX12_isCut_5 ?_
  obtain ⟨r_1, hr_1, h⟩ := ob_some h
  refine g_ci Γ hI (g_runV (As := [.int (v2 &&& (v1 ^^^ (-1 : Int32)))]) Γ hI (S_X12_isOpen l X σ (v2 &&& (v1 ^^^ (-1 : Int32))) r_1 hr_1) mf_X12_isOpen (recv_X12 Γ hI) gw_258 rfl rfl ⟨Nat.le_of_ble_eq_true rfl, Nat.le_of_ble_eq_true rfl⟩ rfl hl.1 rfl (Nat.le_of_ble_eq_true rfl) dX12_isCut_6 ⟨Nat.zero_le _, Nat.zero_le _⟩) (fun H locs hI => ?_)
  clear hr_1
  exact g_zret Γ hI dX12_isCut_9 rfl (Option.some.inj h)
set_option maxRecDepth 20000 in
set_option maxHeartbeats 4000000 in
theorem S_X12_cuts (l : Launch) (X : GX) (σ : GM) (v1 : Int32) (σr : GM) (x : Int32) (h : f_X12_cuts σ v1 = some (σr, x)) : gMet l yX12_cuts cX12_cuts 2 (some .int) ({ frames := 5, cells := 0, slots := 0, locals := 114 } : Room) X σ [.ref (X.2.1 + 60), .int v1] (gQi X σr x) := by
  unfold f_X12_cuts at h
  refine gMet_of (lv := [(0, .ref (X.2.1 + 60)), (1, .int v1)]) (by decide) rfl (Nat.le_of_ble_eq_true rfl) rfl (fun p e s m below meth c H ls Γ hI hl => ?_)
  refine lv_aload_n Γ.1.1 Γ.1.2.1 dX12_cuts_0 rfl (lv_at hl 0 rfl) ?_
  refine lv_iconst (v := (0 : Int32)) Γ.1.1 Γ.1.2.1 dX12_cuts_1 (by decide) ?_
  refine put_X12_thrown Γ hI gw_211 dX12_cuts_2 (fun H locs hI => ?_)
  obtain ⟨σ_1, e_m_1, h⟩ := nm_some h
  rw [← e_m_1] at hI; clear e_m_1
  refine lv_aload_n Γ.1.1 Γ.1.2.1 dX12_cuts_5 rfl (lv_at hl 0 rfl) ?_
  refine lv_iload_n Γ.1.1 Γ.1.2.1 dX12_cuts_6 rfl (lv_at hl 1 rfl) ?_
  obtain ⟨r_2, hr_2, h⟩ := ob_some h
  refine g_ci Γ hI (g_runV (As := [.int v1]) Γ hI (S_X12_areThere l X σ_1 v1 r_2 hr_2) mf_X12_areThere (recv_X12 Γ hI) gw_259 rfl rfl ⟨Nat.le_of_ble_eq_true rfl, Nat.le_of_ble_eq_true rfl⟩ rfl hl.1 rfl (Nat.le_of_ble_eq_true rfl) dX12_cuts_7 ⟨Nat.zero_le _, Nat.zero_le _⟩) (fun H locs hI => ?_)
  clear hr_2
  refine lv_if_ne (tgt := 17) Γ.1.1 Γ.1.2.1 dX12_cuts_10 (by decide) (fun c_4 => ?_) (fun c_4 => ?_)
  · replace h := ite_neg c_4 h; clear c_4
    refine lv_aload_n Γ.1.1 Γ.1.2.1 dX12_cuts_17 rfl (lv_at hl 0 rfl) ?_
    refine lv_iload_n Γ.1.1 Γ.1.2.1 dX12_cuts_18 rfl (lv_at hl 1 rfl) ?_
    refine lv_aload_n Γ.1.1 Γ.1.2.1 dX12_cuts_19 rfl (lv_at hl 0 rfl) ?_
    obtain ⟨r_5, hr_5, h⟩ := ob_some h
    refine g_ci Γ hI (g_runV (As := []) Γ hI (S_X12_there l X σ_1 r_5 hr_5) mf_X12_there (recv_X12 Γ hI) gw_250 rfl rfl ⟨Nat.le_of_ble_eq_true rfl, Nat.le_of_ble_eq_true rfl⟩ rfl hl.1 rfl (Nat.le_of_ble_eq_true rfl) dX12_cuts_20 ⟨Nat.zero_le _, Nat.zero_le _⟩) (fun H locs hI => ?_)
    clear hr_5
    obtain ⟨r_7, hr_7, h⟩ := ob_some h
    refine g_ci Γ hI (g_runV (As := [.int v1, .int r_5]) Γ hI (S_X12_isCut l X σ_1 v1 r_5 r_7 hr_7) mf_X12_isCut (recv_X12 Γ hI) gw_260 rfl rfl ⟨Nat.le_of_ble_eq_true rfl, Nat.le_of_ble_eq_true rfl⟩ rfl hl.1 rfl (Nat.le_of_ble_eq_true rfl) dX12_cuts_23 ⟨Nat.zero_le _, Nat.zero_le _⟩) (fun H locs hI => ?_)
    clear hr_7
    refine lv_if_eq (tgt := 33) Γ.1.1 Γ.1.2.1 dX12_cuts_26 (by decide) (fun c_9 => ?_) (fun c_9 => ?_)
    · replace h := ite_pos c_9 h; clear c_9
      refine lv_iconst (v := (0 : Int32)) Γ.1.1 Γ.1.2.1 dX12_cuts_33 (by decide) ?_
      exact g_iret Γ hI dX12_cuts_34 (Prod.mk.inj (Option.some.inj h)).1 (Prod.mk.inj (Option.some.inj h)).2
    · replace h := ite_neg c_9 h; clear c_9
      refine lv_iconst (v := (1 : Int32)) Γ.1.1 Γ.1.2.1 dX12_cuts_29 (by decide) ?_
      refine lv_goto (tgt := 34) Γ.1.1 Γ.1.2.1 dX12_cuts_30 (by decide) ?_
      exact g_iret Γ hI dX12_cuts_34 (Prod.mk.inj (Option.some.inj h)).1 (Prod.mk.inj (Option.some.inj h)).2
  · replace h := ite_pos c_4 h; clear c_4
    refine lv_iconst (v := (-1 : Int32)) Γ.1.1 Γ.1.2.1 dX12_cuts_13 (by decide) ?_
    refine lv_goto (tgt := 34) Γ.1.1 Γ.1.2.1 dX12_cuts_14 (by decide) ?_
    exact g_iret Γ hI dX12_cuts_34 (Prod.mk.inj (Option.some.inj h)).1 (Prod.mk.inj (Option.some.inj h)).2
set_option maxRecDepth 20000 in
set_option maxHeartbeats 4000000 in
theorem s_X12_bestCut_L67 {p : Program} {l : Launch} {e : Env} {s : State} {m : MethodId} {args : Array Value} {below : List Frame} {meth : Method} {c : Code} {X : GX} (σ : GM) (x : Int32) (Γ : gC X p m meth c cX12_bestCut 8 s args RX12 (some .int)) (v1 : Int32) (v2 : Int32) (v3 : Int32) (k9 : Int32 → Int32 → Int32 → Option Int32) (hk9 : ∀ (v4 : Int32) (v5 : Int32) (v6 : Int32) (H : Heap) (locs : List Loc) (ls : Array Slot), gI X σ s H locs → lv_has ls 8 [(0, .ref (X.2.1 + 60)), (1, .int v1), (2, .int v2), (3, .int v3), (4, .int v4), (5, .int v5), (6, .int v6)] → k9 v4 v5 v6 = some x → W p l e ({ frames := 5, cells := 0, slots := 0, locals := 114 } : Room) s m args below meth c H locs 0 0 (MQ below (gQi X σ x) args s 0 0 (gA X)) (F0 m 9 ls [])) :
    ∀ (v4 : Int32) (v5 : Int32) (v6 : Int32) (v7 : Int32) (H : Heap) (locs : List Loc) (ls : Array Slot), gI X σ s H locs → lv_has ls 8 [(0, .ref (X.2.1 + 60)), (1, .int v1), (2, .int v2), (3, .int v3), (4, .int v4), (5, .int v5), (6, .int v6), (7, .int v7)] → f_X12_bestCut_L67 σ k9 v1 v2 v3 v4 v5 v6 v7 = some x →
    W p l e ({ frames := 5, cells := 0, slots := 0, locals := 114 } : Room) s m args below meth c H locs 0 0 (MQ below (gQi X σ x) args s 0 0 (gA X)) (F0 m 67 ls []) := by
  intro v4 v5 v6 v7 H locs ls hI hl h
  unfold f_X12_bestCut_L67 at h
  refine lv_aload_n Γ.1.1 Γ.1.2.1 dX12_bestCut_67 rfl (lv_at hl 0 rfl) ?_
  refine lv_iload Γ.1.1 Γ.1.2.1 dX12_bestCut_68 (lv_at hl 6 rfl) ?_
  refine lv_iload_n Γ.1.1 Γ.1.2.1 dX12_bestCut_70 rfl (lv_at hl 1 rfl) ?_
  obtain ⟨r_9, hr_9, h⟩ := ob_some h
  refine g_ci Γ hI (g_runV (As := [.int v6, .int v1]) Γ hI (S_X12_isCut l X σ v6 v1 r_9 hr_9) mf_X12_isCut (recv_X12 Γ hI) gw_260 rfl rfl ⟨Nat.le_of_ble_eq_true rfl, Nat.le_of_ble_eq_true rfl⟩ rfl hl.1 rfl (Nat.le_of_ble_eq_true rfl) dX12_bestCut_71 ⟨Nat.zero_le _, Nat.zero_le _⟩) (fun H locs hI => ?_)
  clear hr_9
  refine lv_if_ne (tgt := 80) Γ.1.1 Γ.1.2.1 dX12_bestCut_74 (by decide) (fun c_11 => ?_) (fun c_11 => ?_)
  · replace h := ite_neg c_11 h; clear c_11
    refine lv_iload Γ.1.1 Γ.1.2.1 dX12_bestCut_80 (lv_at hl 6 rfl) ?_
    refine lv_istore (lv' := [(4, .int v6), (0, .ref (X.2.1 + 60)), (1, .int v1), (2, .int v2), (3, .int v3), (5, .int v5), (6, .int v6), (7, .int v7)]) Γ.1.1 Γ.1.2.1 dX12_bestCut_82 hl (by decide) rfl (fun ls hl => ?_)
    refine lv_iload Γ.1.1 Γ.1.2.1 dX12_bestCut_84 (lv_at hl 7 rfl) ?_
    refine lv_istore (lv' := [(5, .int v7), (4, .int v6), (0, .ref (X.2.1 + 60)), (1, .int v1), (2, .int v2), (3, .int v3), (6, .int v6), (7, .int v7)]) Γ.1.1 Γ.1.2.1 dX12_bestCut_86 hl (by decide) rfl (fun ls hl => ?_)
    obtain ⟨v6_12, e_v6_12, h⟩ := nm_some h
    refine lv_iinc (v := v6_12) (lv' := [(6, .int v6_12), (5, .int v7), (4, .int v6), (0, .ref (X.2.1 + 60)), (1, .int v1), (2, .int v2), (3, .int v3), (7, .int v7)]) Γ.1.1 Γ.1.2.1 dX12_bestCut_88 hl (k := 6) rfl (by rw [e_v6_12]; rfl) (by decide) rfl (fun ls hl => ?_)
    clear e_v6_12
    refine lv_goto (tgt := 9) Γ.1.1 Γ.1.2.1 dX12_bestCut_91 (by decide) ?_
    exact hk9 v6 v7 v6_12 _ _ _ hI (lv_sub hl [3, 4, 5, 6, 2, 1, 0] rfl) h
  · replace h := ite_pos c_11 h; clear c_11
    refine lv_goto (tgt := 88) Γ.1.1 Γ.1.2.1 dX12_bestCut_77 (by decide) ?_
    obtain ⟨v6_13, e_v6_13, h⟩ := nm_some h
    refine lv_iinc (v := v6_13) (lv' := [(6, .int v6_13), (0, .ref (X.2.1 + 60)), (1, .int v1), (2, .int v2), (3, .int v3), (4, .int v4), (5, .int v5), (7, .int v7)]) Γ.1.1 Γ.1.2.1 dX12_bestCut_88 hl (k := 6) rfl (by rw [e_v6_13]; rfl) (by decide) rfl (fun ls hl => ?_)
    clear e_v6_13
    refine lv_goto (tgt := 9) Γ.1.1 Γ.1.2.1 dX12_bestCut_91 (by decide) ?_
    exact hk9 v4 v5 v6_13 _ _ _ hI (lv_sub hl [1, 2, 3, 4, 5, 6, 0] rfl) h
set_option maxRecDepth 20000 in
set_option maxHeartbeats 4000000 in
theorem s_X12_bestCut_L52 {p : Program} {l : Launch} {e : Env} {s : State} {m : MethodId} {args : Array Value} {below : List Frame} {meth : Method} {c : Code} {X : GX} (σ : GM) (x : Int32) (Γ : gC X p m meth c cX12_bestCut 8 s args RX12 (some .int)) (v1 : Int32) (v2 : Int32) (v3 : Int32) (k9 : Int32 → Int32 → Int32 → Option Int32) (hk9 : ∀ (v4 : Int32) (v5 : Int32) (v6 : Int32) (H : Heap) (locs : List Loc) (ls : Array Slot), gI X σ s H locs → lv_has ls 8 [(0, .ref (X.2.1 + 60)), (1, .int v1), (2, .int v2), (3, .int v3), (4, .int v4), (5, .int v5), (6, .int v6)] → k9 v4 v5 v6 = some x → W p l e ({ frames := 5, cells := 0, slots := 0, locals := 114 } : Room) s m args below meth c H locs 0 0 (MQ below (gQi X σ x) args s 0 0 (gA X)) (F0 m 9 ls [])) :
    ∀ (v4 : Int32) (v5 : Int32) (v6 : Int32) (s0 : Int32) (H : Heap) (locs : List Loc) (ls : Array Slot), gI X σ s H locs → lv_has ls 8 [(0, .ref (X.2.1 + 60)), (1, .int v1), (2, .int v2), (3, .int v3), (4, .int v4), (5, .int v5), (6, .int v6)] → f_X12_bestCut_L52 σ k9 v1 v2 v3 v4 v5 v6 s0 = some x →
    W p l e ({ frames := 5, cells := 0, slots := 0, locals := 114 } : Room) s m args below meth c H locs 0 0 (MQ below (gQi X σ x) args s 0 0 (gA X)) (F0 m 52 ls [.int s0]) := by
  intro v4 v5 v6 s0 H locs ls hI hl h
  unfold f_X12_bestCut_L52 at h
  refine lv_istore (lv' := [(7, .int s0), (0, .ref (X.2.1 + 60)), (1, .int v1), (2, .int v2), (3, .int v3), (4, .int v4), (5, .int v5), (6, .int v6)]) Γ.1.1 Γ.1.2.1 dX12_bestCut_52 hl (by decide) rfl (fun ls hl => ?_)
  refine lv_iload Γ.1.1 Γ.1.2.1 dX12_bestCut_54 (lv_at hl 5 rfl) ?_
  refine lv_iconst (v := (-1 : Int32)) Γ.1.1 Γ.1.2.1 dX12_bestCut_56 (by decide) ?_
  refine lv_icmp_eq (tgt := 67) Γ.1.1 Γ.1.2.1 dX12_bestCut_57 (by decide) (fun c_8 => ?_) (fun c_8 => ?_)
  · replace h := ite_pos c_8 h; clear c_8
    exact s_X12_bestCut_L67 σ x Γ v1 v2 v3 _ hk9 v4 v5 v6 s0 _ _ _ hI (lv_sub hl [1, 2, 3, 4, 5, 6, 7, 0] rfl) h
  · replace h := ite_neg c_8 h; clear c_8
    refine lv_iload Γ.1.1 Γ.1.2.1 dX12_bestCut_60 (lv_at hl 0 rfl) ?_
    refine lv_iload Γ.1.1 Γ.1.2.1 dX12_bestCut_62 (lv_at hl 6 rfl) ?_
    refine lv_icmp_ge (tgt := 88) Γ.1.1 Γ.1.2.1 dX12_bestCut_64 (by decide) (fun c_14 => ?_) (fun c_14 => ?_)
    · replace h := ite_pos c_14 h; clear c_14
      obtain ⟨v6_15, e_v6_15, h⟩ := nm_some h
      refine lv_iinc (v := v6_15) (lv' := [(6, .int v6_15), (7, .int s0), (0, .ref (X.2.1 + 60)), (1, .int v1), (2, .int v2), (3, .int v3), (4, .int v4), (5, .int v5)]) Γ.1.1 Γ.1.2.1 dX12_bestCut_88 hl (k := 7) rfl (by rw [e_v6_15]; rfl) (by decide) rfl (fun ls hl => ?_)
      clear e_v6_15
      refine lv_goto (tgt := 9) Γ.1.1 Γ.1.2.1 dX12_bestCut_91 (by decide) ?_
      exact hk9 v4 v5 v6_15 _ _ _ hI (lv_sub hl [2, 3, 4, 5, 6, 7, 0] rfl) h
    · replace h := ite_neg c_14 h; clear c_14
      exact s_X12_bestCut_L67 σ x Γ v1 v2 v3 _ hk9 v4 v5 v6 s0 _ _ _ hI (lv_sub hl [1, 2, 3, 4, 5, 6, 7, 0] rfl) h
set_option maxRecDepth 20000 in
set_option maxHeartbeats 4000000 in
theorem s_X12_bestCut_L9 {p : Program} {l : Launch} {e : Env} {s : State} {m : MethodId} {args : Array Value} {below : List Frame} {meth : Method} {c : Code} {X : GX} (σ : GM) (x : Int32) (Γ : gC X p m meth c cX12_bestCut 8 s args RX12 (some .int)) (v1 : Int32) (v2 : Int32) (v3 : Int32) :
    ∀ (k : Nat) (v4 : Int32) (v5 : Int32) (v6 : Int32) (H : Heap) (locs : List Loc) (ls : Array Slot), gI X σ s H locs → lv_has ls 8 [(0, .ref (X.2.1 + 60)), (1, .int v1), (2, .int v2), (3, .int v3), (4, .int v4), (5, .int v5), (6, .int v6)] → f_X12_bestCut_L9 σ v1 v2 v3 k v4 v5 v6 = some x →
    W p l e ({ frames := 5, cells := 0, slots := 0, locals := 114 } : Room) s m args below meth c H locs 0 0 (MQ below (gQi X σ x) args s 0 0 (gA X)) (F0 m 9 ls []) := by
  intro k
  induction k with
  | zero =>
    intro v4 v5 v6 H locs ls hI hl h
    exact absurd h (by simp [f_X12_bestCut_L9])
  | succ k ih =>
    intro v4 v5 v6 H locs ls hI hl h
    unfold f_X12_bestCut_L9 at h
    refine lv_iload Γ.1.1 Γ.1.2.1 dX12_bestCut_9 (lv_at hl 6 rfl) ?_
    refine lv_iload_n Γ.1.1 Γ.1.2.1 dX12_bestCut_11 rfl (lv_at hl 1 rfl) ?_
    refine lv_icmp_gt (tgt := 94) Γ.1.1 Γ.1.2.1 dX12_bestCut_12 (by decide) (fun c_1 => ?_) (fun c_1 => ?_)
    · replace h := ite_pos c_1 h; clear c_1
      refine lv_iload Γ.1.1 Γ.1.2.1 dX12_bestCut_94 (lv_at hl 4 rfl) ?_
      exact g_iret Γ hI dX12_bestCut_96 rfl (Option.some.inj h)
    · replace h := ite_neg c_1 h; clear c_1
      refine lv_iload Γ.1.1 Γ.1.2.1 dX12_bestCut_15 (lv_at hl 6 rfl) ?_
      refine lv_iload_n Γ.1.1 Γ.1.2.1 dX12_bestCut_17 rfl (lv_at hl 1 rfl) ?_
      refine lv_iconst (v := (-1 : Int32)) Γ.1.1 Γ.1.2.1 dX12_bestCut_18 (by decide) ?_
      refine lv_ixor Γ.1.1 Γ.1.2.1 dX12_bestCut_19 ?_
      refine lv_iand Γ.1.1 Γ.1.2.1 dX12_bestCut_20 ?_
      refine lv_if_ne (tgt := 88) Γ.1.1 Γ.1.2.1 dX12_bestCut_21 (by decide) (fun c_2 => ?_) (fun c_2 => ?_)
      · replace h := ite_neg c_2 h; clear c_2
        obtain ⟨v6_3, e_v6_3, h⟩ := nm_some h
        refine lv_iinc (v := v6_3) (lv' := [(6, .int v6_3), (0, .ref (X.2.1 + 60)), (1, .int v1), (2, .int v2), (3, .int v3), (4, .int v4), (5, .int v5)]) Γ.1.1 Γ.1.2.1 dX12_bestCut_88 hl (k := 6) rfl (by rw [e_v6_3]; rfl) (by decide) rfl (fun ls hl => ?_)
        clear e_v6_3
        refine lv_goto (tgt := 9) Γ.1.1 Γ.1.2.1 dX12_bestCut_91 (by decide) ?_
        exact ih v4 v5 v6_3 _ _ _ hI (lv_sub hl [1, 2, 3, 4, 5, 6, 0] rfl) h
      · replace h := ite_pos c_2 h; clear c_2
        refine lv_iload Γ.1.1 Γ.1.2.1 dX12_bestCut_24 (lv_at hl 6 rfl) ?_
        refine lv_iload_n Γ.1.1 Γ.1.2.1 dX12_bestCut_26 rfl (lv_at hl 2 rfl) ?_
        refine lv_iand Γ.1.1 Γ.1.2.1 dX12_bestCut_27 ?_
        refine lv_if_eq (tgt := 34) Γ.1.1 Γ.1.2.1 dX12_bestCut_28 (by decide) (fun c_4 => ?_) (fun c_4 => ?_)
        · replace h := ite_pos c_4 h; clear c_4
          refine lv_iload_n Γ.1.1 Γ.1.2.1 dX12_bestCut_34 rfl (lv_at hl 3 rfl) ?_
          refine lv_if_eq (tgt := 47) Γ.1.1 Γ.1.2.1 dX12_bestCut_35 (by decide) (fun c_5 => ?_) (fun c_5 => ?_)
          · replace h := ite_pos c_5 h; clear c_5
            refine lv_iload Γ.1.1 Γ.1.2.1 dX12_bestCut_47 (lv_at hl 6 rfl) ?_
            obtain ⟨r_6, hr_6, h⟩ := ob_some h
            refine g_ci Γ hI (g_runS (As := [.int v6]) Γ hI (S_X12_bits l X σ v6 r_6 hr_6) mf_X12_bits gw_257 rfl rfl ⟨Nat.le_of_ble_eq_true rfl, Nat.le_of_ble_eq_true rfl⟩ rfl hl.1 rfl (Nat.le_of_ble_eq_true rfl) dX12_bestCut_49 ⟨Nat.zero_le _, Nat.zero_le _⟩) (fun H locs hI => ?_)
            clear hr_6
            exact s_X12_bestCut_L52 σ x Γ v1 v2 v3 _ ih v4 v5 v6 r_6 _ _ _ hI hl h
          · replace h := ite_neg c_5 h; clear c_5
            refine lv_aload_n Γ.1.1 Γ.1.2.1 dX12_bestCut_38 rfl (lv_at hl 0 rfl) ?_
            refine lv_iload Γ.1.1 Γ.1.2.1 dX12_bestCut_39 (lv_at hl 6 rfl) ?_
            obtain ⟨r_16, hr_16, h⟩ := ob_some h
            refine g_ci Γ hI (g_runV (As := [.int v6]) Γ hI (S_X12_weightOf l X σ v6 r_16 hr_16) mf_X12_weightOf (recv_X12 Γ hI) gw_254 rfl rfl ⟨Nat.le_of_ble_eq_true rfl, Nat.le_of_ble_eq_true rfl⟩ rfl hl.1 rfl (Nat.le_of_ble_eq_true rfl) dX12_bestCut_41 ⟨Nat.zero_le _, Nat.zero_le _⟩) (fun H locs hI => ?_)
            clear hr_16
            refine lv_goto (tgt := 52) Γ.1.1 Γ.1.2.1 dX12_bestCut_44 (by decide) ?_
            exact s_X12_bestCut_L52 σ x Γ v1 v2 v3 _ ih v4 v5 v6 r_16 _ _ _ hI hl h
        · replace h := ite_neg c_4 h; clear c_4
          refine lv_goto (tgt := 88) Γ.1.1 Γ.1.2.1 dX12_bestCut_31 (by decide) ?_
          obtain ⟨v6_18, e_v6_18, h⟩ := nm_some h
          refine lv_iinc (v := v6_18) (lv' := [(6, .int v6_18), (0, .ref (X.2.1 + 60)), (1, .int v1), (2, .int v2), (3, .int v3), (4, .int v4), (5, .int v5)]) Γ.1.1 Γ.1.2.1 dX12_bestCut_88 hl (k := 6) rfl (by rw [e_v6_18]; rfl) (by decide) rfl (fun ls hl => ?_)
          clear e_v6_18
          refine lv_goto (tgt := 9) Γ.1.1 Γ.1.2.1 dX12_bestCut_91 (by decide) ?_
          exact ih v4 v5 v6_18 _ _ _ hI (lv_sub hl [1, 2, 3, 4, 5, 6, 0] rfl) h
set_option maxRecDepth 20000 in
set_option maxHeartbeats 4000000 in
theorem S_X12_bestCut (l : Launch) (X : GX) (σ : GM) (v1 : Int32) (v2 : Int32) (v3 : Int32) (x : Int32) (h : f_X12_bestCut σ v1 v2 v3 = some x) : gMet l yX12_bestCut cX12_bestCut 8 (some .int) ({ frames := 5, cells := 0, slots := 0, locals := 114 } : Room) X σ [.ref (X.2.1 + 60), .int v1, .int v2, .int v3] (gQi X σ x) := by
  unfold f_X12_bestCut at h
  refine gMet_of (lv := [(0, .ref (X.2.1 + 60)), (1, .int v1), (2, .int v2), (3, .int v3)]) (by decide) rfl (Nat.le_of_ble_eq_true rfl) rfl (fun p e s m below meth c H ls Γ hI hl => ?_)
  refine lv_iconst (v := (-1 : Int32)) Γ.1.1 Γ.1.2.1 dX12_bestCut_0 (by decide) ?_
  refine lv_istore (lv' := [(4, .int (-1 : Int32)), (0, .ref (X.2.1 + 60)), (1, .int v1), (2, .int v2), (3, .int v3)]) Γ.1.1 Γ.1.2.1 dX12_bestCut_1 hl (by decide) rfl (fun ls hl => ?_)
  refine lv_iconst (v := (0 : Int32)) Γ.1.1 Γ.1.2.1 dX12_bestCut_3 (by decide) ?_
  refine lv_istore (lv' := [(5, .int (0 : Int32)), (4, .int (-1 : Int32)), (0, .ref (X.2.1 + 60)), (1, .int v1), (2, .int v2), (3, .int v3)]) Γ.1.1 Γ.1.2.1 dX12_bestCut_4 hl (by decide) rfl (fun ls hl => ?_)
  refine lv_iconst (v := (0 : Int32)) Γ.1.1 Γ.1.2.1 dX12_bestCut_6 (by decide) ?_
  refine lv_istore (lv' := [(6, .int (0 : Int32)), (5, .int (0 : Int32)), (4, .int (-1 : Int32)), (0, .ref (X.2.1 + 60)), (1, .int v1), (2, .int v2), (3, .int v3)]) Γ.1.1 Γ.1.2.1 dX12_bestCut_7 hl (by decide) rfl (fun ls hl => ?_)
  exact s_X12_bestCut_L9 σ x Γ v1 v2 v3 _ (-1 : Int32) (0 : Int32) (0 : Int32) _ _ _ hI (lv_sub hl [3, 4, 5, 6, 2, 1, 0] rfl) h
set_option maxRecDepth 20000 in
set_option maxHeartbeats 4000000 in
theorem S_X12_tellsCut (l : Launch) (X : GX) (σ : GM) (v1 : Int32) (v2 : Int32) (x : Int32) (h : f_X12_tellsCut σ v1 v2 = some x) : gMet l yX12_tellsCut cX12_tellsCut 3 (some .int) ({ frames := 2, cells := 0, slots := 0, locals := 44 } : Room) X σ [.ref (X.2.1 + 60), .int v1, .int v2] (gQi X σ x) := by
  unfold f_X12_tellsCut at h
  refine gMet_of (lv := [(0, .ref (X.2.1 + 60)), (1, .int v1), (2, .int v2)]) (by decide) rfl (Nat.le_of_ble_eq_true rfl) rfl (fun p e s m below meth c H ls Γ hI hl => ?_)
  refine lv_iload_n Γ.1.1 Γ.1.2.1 dX12_tellsCut_0 rfl (lv_at hl 2 rfl) ?_
  refine lv_if_ne (tgt := 11) Γ.1.1 Γ.1.2.1 dX12_tellsCut_1 (by decide) (fun c_1 => ?_) (fun c_1 => ?_)
  · replace h := ite_neg c_1 h; clear c_1
    refine lv_iload_n Γ.1.1 Γ.1.2.1 dX12_tellsCut_11 rfl (lv_at hl 2 rfl) ?_
    refine lv_iconst (v := (1 : Int32)) Γ.1.1 Γ.1.2.1 dX12_tellsCut_12 (by decide) ?_
    refine lv_icmp_ne (tgt := 20) Γ.1.1 Γ.1.2.1 dX12_tellsCut_13 (by decide) (fun c_2 => ?_) (fun c_2 => ?_)
    · replace h := ite_neg c_2 h; clear c_2
      refine lv_iload_n Γ.1.1 Γ.1.2.1 dX12_tellsCut_20 rfl (lv_at hl 2 rfl) ?_
      refine lv_iconst (v := (2 : Int32)) Γ.1.1 Γ.1.2.1 dX12_tellsCut_21 (by decide) ?_
      refine lv_icmp_ne (tgt := 33) Γ.1.1 Γ.1.2.1 dX12_tellsCut_22 (by decide) (fun c_3 => ?_) (fun c_3 => ?_)
      · replace h := ite_neg c_3 h; clear c_3
        refine lv_iconst (v := (-1 : Int32)) Γ.1.1 Γ.1.2.1 dX12_tellsCut_33 (by decide) ?_
        exact g_iret Γ hI dX12_tellsCut_34 rfl (Option.some.inj h)
      · replace h := ite_pos c_3 h; clear c_3
        refine lv_aload_n Γ.1.1 Γ.1.2.1 dX12_tellsCut_25 rfl (lv_at hl 0 rfl) ?_
        refine lv_iload_n Γ.1.1 Γ.1.2.1 dX12_tellsCut_26 rfl (lv_at hl 1 rfl) ?_
        obtain ⟨r_4, hr_4, h⟩ := ob_some h
        refine g_ci Γ hI (g_runV (As := [.int v1]) Γ hI (S_X12_weightOf l X σ v1 r_4 hr_4) mf_X12_weightOf (recv_X12 Γ hI) gw_254 rfl rfl ⟨Nat.le_of_ble_eq_true rfl, Nat.le_of_ble_eq_true rfl⟩ rfl hl.1 rfl (Nat.le_of_ble_eq_true rfl) dX12_tellsCut_27 ⟨Nat.zero_le _, Nat.zero_le _⟩) (fun H locs hI => ?_)
        clear hr_4
        refine lv_goto (tgt := 34) Γ.1.1 Γ.1.2.1 dX12_tellsCut_30 (by decide) ?_
        exact g_iret Γ hI dX12_tellsCut_34 rfl (Option.some.inj h)
    · replace h := ite_pos c_2 h; clear c_2
      refine lv_iload_n Γ.1.1 Γ.1.2.1 dX12_tellsCut_16 rfl (lv_at hl 1 rfl) ?_
      refine lv_goto (tgt := 34) Γ.1.1 Γ.1.2.1 dX12_tellsCut_17 (by decide) ?_
      exact g_iret Γ hI dX12_tellsCut_34 rfl (Option.some.inj h)
  · replace h := ite_pos c_1 h; clear c_1
    refine lv_iload_n Γ.1.1 Γ.1.2.1 dX12_tellsCut_4 rfl (lv_at hl 1 rfl) ?_
    obtain ⟨r_6, hr_6, h⟩ := ob_some h
    refine g_ci Γ hI (g_runS (As := [.int v1]) Γ hI (S_X12_bits l X σ v1 r_6 hr_6) mf_X12_bits gw_257 rfl rfl ⟨Nat.le_of_ble_eq_true rfl, Nat.le_of_ble_eq_true rfl⟩ rfl hl.1 rfl (Nat.le_of_ble_eq_true rfl) dX12_tellsCut_5 ⟨Nat.zero_le _, Nat.zero_le _⟩) (fun H locs hI => ?_)
    clear hr_6
    refine lv_goto (tgt := 34) Γ.1.1 Γ.1.2.1 dX12_tellsCut_8 (by decide) ?_
    exact g_iret Γ hI dX12_tellsCut_34 rfl (Option.some.inj h)
set_option maxRecDepth 20000 in
set_option maxHeartbeats 4000000 in
theorem S_X12_fewest (l : Launch) (X : GX) (σ : GM) (v1 : Int32) (σr : GM) (x : Int32) (h : f_X12_fewest σ v1 = some (σr, x)) : gMet l yX12_fewest cX12_fewest 2 (some .int) ({ frames := 6, cells := 0, slots := 0, locals := 141 } : Room) X σ [.ref (X.2.1 + 60), .int v1] (gQi X σr x) := by
  unfold f_X12_fewest at h
  refine gMet_of (lv := [(0, .ref (X.2.1 + 60)), (1, .int v1)]) (by decide) rfl (Nat.le_of_ble_eq_true rfl) rfl (fun p e s m below meth c H ls Γ hI hl => ?_)
  refine lv_aload_n Γ.1.1 Γ.1.2.1 dX12_fewest_0 rfl (lv_at hl 0 rfl) ?_
  refine lv_iconst (v := (0 : Int32)) Γ.1.1 Γ.1.2.1 dX12_fewest_1 (by decide) ?_
  refine put_X12_thrown Γ hI gw_211 dX12_fewest_2 (fun H locs hI => ?_)
  obtain ⟨σ_1, e_m_1, h⟩ := nm_some h
  rw [← e_m_1] at hI; clear e_m_1
  refine lv_aload_n Γ.1.1 Γ.1.2.1 dX12_fewest_5 rfl (lv_at hl 0 rfl) ?_
  refine lv_aload_n Γ.1.1 Γ.1.2.1 dX12_fewest_6 rfl (lv_at hl 0 rfl) ?_
  refine lv_aload_n Γ.1.1 Γ.1.2.1 dX12_fewest_7 rfl (lv_at hl 0 rfl) ?_
  obtain ⟨r_2, hr_2, h⟩ := ob_some h
  refine g_ci Γ hI (g_runV (As := []) Γ hI (S_X12_there l X σ_1 r_2 hr_2) mf_X12_there (recv_X12 Γ hI) gw_250 rfl rfl ⟨Nat.le_of_ble_eq_true rfl, Nat.le_of_ble_eq_true rfl⟩ rfl hl.1 rfl (Nat.le_of_ble_eq_true rfl) dX12_fewest_8 ⟨Nat.zero_le _, Nat.zero_le _⟩) (fun H locs hI => ?_)
  clear hr_2
  refine lv_iconst (v := (0 : Int32)) Γ.1.1 Γ.1.2.1 dX12_fewest_11 (by decide) ?_
  refine lv_iconst (v := (0 : Int32)) Γ.1.1 Γ.1.2.1 dX12_fewest_12 (by decide) ?_
  obtain ⟨r_4, hr_4, h⟩ := ob_some h
  refine g_ci Γ hI (g_runV (As := [.int r_2, .int (0 : Int32), .int (0 : Int32)]) Γ hI (S_X12_bestCut l X σ_1 r_2 (0 : Int32) (0 : Int32) r_4 hr_4) mf_X12_bestCut (recv_X12 Γ hI) gw_261 rfl rfl ⟨Nat.le_of_ble_eq_true rfl, Nat.le_of_ble_eq_true rfl⟩ rfl hl.1 rfl (Nat.le_of_ble_eq_true rfl) dX12_fewest_13 ⟨Nat.zero_le _, Nat.zero_le _⟩) (fun H locs hI => ?_)
  clear hr_4
  refine lv_iload_n Γ.1.1 Γ.1.2.1 dX12_fewest_16 rfl (lv_at hl 1 rfl) ?_
  obtain ⟨r_6, hr_6, h⟩ := ob_some h
  refine g_ci Γ hI (g_runV (As := [.int r_4, .int v1]) Γ hI (S_X12_tellsCut l X σ_1 r_4 v1 r_6 hr_6) mf_X12_tellsCut (recv_X12 Γ hI) gw_262 rfl rfl ⟨Nat.le_of_ble_eq_true rfl, Nat.le_of_ble_eq_true rfl⟩ rfl hl.1 rfl (Nat.le_of_ble_eq_true rfl) dX12_fewest_17 ⟨Nat.zero_le _, Nat.zero_le _⟩) (fun H locs hI => ?_)
  clear hr_6
  exact g_iret Γ hI dX12_fewest_20 (Prod.mk.inj (Option.some.inj h)).1 (Prod.mk.inj (Option.some.inj h)).2
set_option maxRecDepth 20000 in
set_option maxHeartbeats 4000000 in
theorem S_X12_lightest (l : Launch) (X : GX) (σ : GM) (v1 : Int32) (σr : GM) (x : Int32) (h : f_X12_lightest σ v1 = some (σr, x)) : gMet l yX12_lightest cX12_lightest 2 (some .int) ({ frames := 6, cells := 0, slots := 0, locals := 141 } : Room) X σ [.ref (X.2.1 + 60), .int v1] (gQi X σr x) := by
  unfold f_X12_lightest at h
  refine gMet_of (lv := [(0, .ref (X.2.1 + 60)), (1, .int v1)]) (by decide) rfl (Nat.le_of_ble_eq_true rfl) rfl (fun p e s m below meth c H ls Γ hI hl => ?_)
  refine lv_aload_n Γ.1.1 Γ.1.2.1 dX12_lightest_0 rfl (lv_at hl 0 rfl) ?_
  refine lv_iconst (v := (0 : Int32)) Γ.1.1 Γ.1.2.1 dX12_lightest_1 (by decide) ?_
  refine put_X12_thrown Γ hI gw_211 dX12_lightest_2 (fun H locs hI => ?_)
  obtain ⟨σ_1, e_m_1, h⟩ := nm_some h
  rw [← e_m_1] at hI; clear e_m_1
  refine lv_aload_n Γ.1.1 Γ.1.2.1 dX12_lightest_5 rfl (lv_at hl 0 rfl) ?_
  refine lv_aload_n Γ.1.1 Γ.1.2.1 dX12_lightest_6 rfl (lv_at hl 0 rfl) ?_
  refine lv_aload_n Γ.1.1 Γ.1.2.1 dX12_lightest_7 rfl (lv_at hl 0 rfl) ?_
  obtain ⟨r_2, hr_2, h⟩ := ob_some h
  refine g_ci Γ hI (g_runV (As := []) Γ hI (S_X12_there l X σ_1 r_2 hr_2) mf_X12_there (recv_X12 Γ hI) gw_250 rfl rfl ⟨Nat.le_of_ble_eq_true rfl, Nat.le_of_ble_eq_true rfl⟩ rfl hl.1 rfl (Nat.le_of_ble_eq_true rfl) dX12_lightest_8 ⟨Nat.zero_le _, Nat.zero_le _⟩) (fun H locs hI => ?_)
  clear hr_2
  refine lv_iconst (v := (0 : Int32)) Γ.1.1 Γ.1.2.1 dX12_lightest_11 (by decide) ?_
  refine lv_iconst (v := (1 : Int32)) Γ.1.1 Γ.1.2.1 dX12_lightest_12 (by decide) ?_
  obtain ⟨r_4, hr_4, h⟩ := ob_some h
  refine g_ci Γ hI (g_runV (As := [.int r_2, .int (0 : Int32), .int (1 : Int32)]) Γ hI (S_X12_bestCut l X σ_1 r_2 (0 : Int32) (1 : Int32) r_4 hr_4) mf_X12_bestCut (recv_X12 Γ hI) gw_261 rfl rfl ⟨Nat.le_of_ble_eq_true rfl, Nat.le_of_ble_eq_true rfl⟩ rfl hl.1 rfl (Nat.le_of_ble_eq_true rfl) dX12_lightest_13 ⟨Nat.zero_le _, Nat.zero_le _⟩) (fun H locs hI => ?_)
  clear hr_4
  refine lv_iload_n Γ.1.1 Γ.1.2.1 dX12_lightest_16 rfl (lv_at hl 1 rfl) ?_
  obtain ⟨r_6, hr_6, h⟩ := ob_some h
  refine g_ci Γ hI (g_runV (As := [.int r_4, .int v1]) Γ hI (S_X12_tellsCut l X σ_1 r_4 v1 r_6 hr_6) mf_X12_tellsCut (recv_X12 Γ hI) gw_262 rfl rfl ⟨Nat.le_of_ble_eq_true rfl, Nat.le_of_ble_eq_true rfl⟩ rfl hl.1 rfl (Nat.le_of_ble_eq_true rfl) dX12_lightest_17 ⟨Nat.zero_le _, Nat.zero_le _⟩) (fun H locs hI => ?_)
  clear hr_6
  exact g_iret Γ hI dX12_lightest_20 (Prod.mk.inj (Option.some.inj h)).1 (Prod.mk.inj (Option.some.inj h)).2
set_option maxRecDepth 20000 in
set_option maxHeartbeats 4000000 in
theorem s_X12_those_L113 {p : Program} {l : Launch} {e : Env} {s : State} {m : MethodId} {args : Array Value} {below : List Frame} {meth : Method} {c : Code} {X : GX} (σr : GM) (x : Int32) (Γ : gC X p m meth c cX12_those 7 s args RX12 (some .int)) :
    ∀ (σ : GM) (v1 : Int32) (v3 : Int32) (v4 : Int32) (v5 : Int32) (H : Heap) (locs : List Loc) (ls : Array Slot), gI X σ s H locs → lv_has ls 7 [(1, .int v1), (3, .int v3), (4, .int v4), (5, .int v5)] → f_X12_those_L113 σ v1 v3 v4 v5 = some (σr, x) →
    W p l e ({ frames := 6, cells := 0, slots := 0, locals := 141 } : Room) s m args below meth c H locs 0 0 (MQ below (gQi X σr x) args s 0 0 (gA X)) (F0 m 113 ls []) := by
  intro σ v1 v3 v4 v5 H locs ls hI hl h
  unfold f_X12_those_L113 at h
  refine lv_iload_n Γ.1.1 Γ.1.2.1 dX12_those_113 rfl (lv_at hl 0 rfl) ?_
  refine lv_if_ne (tgt := 121) Γ.1.1 Γ.1.2.1 dX12_those_114 (by decide) (fun c_16 => ?_) (fun c_16 => ?_)
  · replace h := ite_neg c_16 h; clear c_16
    refine lv_iload_n Γ.1.1 Γ.1.2.1 dX12_those_121 rfl (lv_at hl 0 rfl) ?_
    refine lv_iconst (v := (1 : Int32)) Γ.1.1 Γ.1.2.1 dX12_those_122 (by decide) ?_
    refine lv_icmp_ne (tgt := 131) Γ.1.1 Γ.1.2.1 dX12_those_123 (by decide) (fun c_17 => ?_) (fun c_17 => ?_)
    · replace h := ite_neg c_17 h; clear c_17
      refine lv_iload Γ.1.1 Γ.1.2.1 dX12_those_131 (lv_at hl 3 rfl) ?_
      exact g_iret Γ hI dX12_those_133 (Prod.mk.inj (Option.some.inj h)).1 (Prod.mk.inj (Option.some.inj h)).2
    · replace h := ite_pos c_17 h; clear c_17
      refine lv_iload Γ.1.1 Γ.1.2.1 dX12_those_126 (lv_at hl 2 rfl) ?_
      refine lv_goto (tgt := 133) Γ.1.1 Γ.1.2.1 dX12_those_128 (by decide) ?_
      exact g_iret Γ hI dX12_those_133 (Prod.mk.inj (Option.some.inj h)).1 (Prod.mk.inj (Option.some.inj h)).2
  · replace h := ite_pos c_16 h; clear c_16
    refine lv_iload_n Γ.1.1 Γ.1.2.1 dX12_those_117 rfl (lv_at hl 1 rfl) ?_
    refine lv_goto (tgt := 133) Γ.1.1 Γ.1.2.1 dX12_those_118 (by decide) ?_
    exact g_iret Γ hI dX12_those_133 (Prod.mk.inj (Option.some.inj h)).1 (Prod.mk.inj (Option.some.inj h)).2
set_option maxRecDepth 20000 in
set_option maxHeartbeats 4000000 in
theorem s_X12_those_L44 {p : Program} {l : Launch} {e : Env} {s : State} {m : MethodId} {args : Array Value} {below : List Frame} {meth : Method} {c : Code} {X : GX} (σr : GM) (x : Int32) (Γ : gC X p m meth c cX12_those 7 s args RX12 (some .int)) (v1 : Int32) (v2 : Int32) :
    ∀ (k : Nat) (σ : GM) (v3 : Int32) (v4 : Int32) (v5 : Int32) (v6 : Int32) (H : Heap) (locs : List Loc) (ls : Array Slot), gI X σ s H locs → lv_has ls 7 [(0, .ref (X.2.1 + 60)), (1, .int v1), (2, .int v2), (3, .int v3), (4, .int v4), (5, .int v5), (6, .int v6)] → f_X12_those_L44 v1 v2 k σ v3 v4 v5 v6 = some (σr, x) →
    W p l e ({ frames := 6, cells := 0, slots := 0, locals := 141 } : Room) s m args below meth c H locs 0 0 (MQ below (gQi X σr x) args s 0 0 (gA X)) (F0 m 44 ls []) := by
  intro k
  induction k with
  | zero =>
    intro σ v3 v4 v5 v6 H locs ls hI hl h
    exact absurd h (by simp [f_X12_those_L44])
  | succ k ih =>
    intro σ v3 v4 v5 v6 H locs ls hI hl h
    unfold f_X12_those_L44 at h
    refine lv_iload Γ.1.1 Γ.1.2.1 dX12_those_44 (lv_at hl 6 rfl) ?_
    refine lv_aload_n Γ.1.1 Γ.1.2.1 dX12_those_46 rfl (lv_at hl 0 rfl) ?_
    obtain ⟨r_13, hr_13, h⟩ := ob_some h
    refine g_ci Γ hI (g_runV (As := []) Γ hI (S_X12_there l X σ r_13 hr_13) mf_X12_there (recv_X12 Γ hI) gw_250 rfl rfl ⟨Nat.le_of_ble_eq_true rfl, Nat.le_of_ble_eq_true rfl⟩ rfl hl.1 rfl (Nat.le_of_ble_eq_true rfl) dX12_those_47 ⟨Nat.zero_le _, Nat.zero_le _⟩) (fun H locs hI => ?_)
    clear hr_13
    refine lv_icmp_gt (tgt := 113) Γ.1.1 Γ.1.2.1 dX12_those_50 (by decide) (fun c_15 => ?_) (fun c_15 => ?_)
    · replace h := ite_pos c_15 h; clear c_15
      exact s_X12_those_L113 σr x Γ σ v1 v3 v4 v5 _ _ _ hI (lv_sub hl [1, 3, 4, 5] rfl) h
    · replace h := ite_neg c_15 h; clear c_15
      refine lv_iload Γ.1.1 Γ.1.2.1 dX12_those_53 (lv_at hl 6 rfl) ?_
      refine lv_aload_n Γ.1.1 Γ.1.2.1 dX12_those_55 rfl (lv_at hl 0 rfl) ?_
      obtain ⟨r_18, hr_18, h⟩ := ob_some h
      refine g_ci Γ hI (g_runV (As := []) Γ hI (S_X12_there l X σ r_18 hr_18) mf_X12_there (recv_X12 Γ hI) gw_250 rfl rfl ⟨Nat.le_of_ble_eq_true rfl, Nat.le_of_ble_eq_true rfl⟩ rfl hl.1 rfl (Nat.le_of_ble_eq_true rfl) dX12_those_56 ⟨Nat.zero_le _, Nat.zero_le _⟩) (fun H locs hI => ?_)
      clear hr_18
      refine lv_iconst (v := (-1 : Int32)) Γ.1.1 Γ.1.2.1 dX12_those_59 (by decide) ?_
      refine lv_ixor Γ.1.1 Γ.1.2.1 dX12_those_60 ?_
      refine lv_iand Γ.1.1 Γ.1.2.1 dX12_those_61 ?_
      refine lv_if_ne (tgt := 107) Γ.1.1 Γ.1.2.1 dX12_those_62 (by decide) (fun c_20 => ?_) (fun c_20 => ?_)
      · replace h := ite_neg c_20 h; clear c_20
        obtain ⟨v6_21, e_v6_21, h⟩ := nm_some h
        refine lv_iinc (v := v6_21) (lv' := [(6, .int v6_21), (0, .ref (X.2.1 + 60)), (1, .int v1), (2, .int v2), (3, .int v3), (4, .int v4), (5, .int v5)]) Γ.1.1 Γ.1.2.1 dX12_those_107 hl (k := 6) rfl (by rw [e_v6_21]; rfl) (by decide) rfl (fun ls hl => ?_)
        clear e_v6_21
        refine lv_goto (tgt := 44) Γ.1.1 Γ.1.2.1 dX12_those_110 (by decide) ?_
        exact ih σ v3 v4 v5 v6_21 _ _ _ hI (lv_sub hl [1, 2, 3, 4, 5, 6, 0] rfl) h
      · replace h := ite_pos c_20 h; clear c_20
        refine lv_iload Γ.1.1 Γ.1.2.1 dX12_those_65 (lv_at hl 6 rfl) ?_
        obtain ⟨r_22, hr_22, h⟩ := ob_some h
        refine g_ci Γ hI (g_runS (As := [.int v6]) Γ hI (S_X12_bits l X σ v6 r_22 hr_22) mf_X12_bits gw_257 rfl rfl ⟨Nat.le_of_ble_eq_true rfl, Nat.le_of_ble_eq_true rfl⟩ rfl hl.1 rfl (Nat.le_of_ble_eq_true rfl) dX12_those_67 ⟨Nat.zero_le _, Nat.zero_le _⟩) (fun H locs hI => ?_)
        clear hr_22
        refine lv_iload_n Γ.1.1 Γ.1.2.1 dX12_those_70 rfl (lv_at hl 2 rfl) ?_
        refine lv_icmp_ne (tgt := 107) Γ.1.1 Γ.1.2.1 dX12_those_71 (by decide) (fun c_24 => ?_) (fun c_24 => ?_)
        · replace h := ite_neg c_24 h; clear c_24
          obtain ⟨v6_25, e_v6_25, h⟩ := nm_some h
          refine lv_iinc (v := v6_25) (lv' := [(6, .int v6_25), (0, .ref (X.2.1 + 60)), (1, .int v1), (2, .int v2), (3, .int v3), (4, .int v4), (5, .int v5)]) Γ.1.1 Γ.1.2.1 dX12_those_107 hl (k := 6) rfl (by rw [e_v6_25]; rfl) (by decide) rfl (fun ls hl => ?_)
          clear e_v6_25
          refine lv_goto (tgt := 44) Γ.1.1 Γ.1.2.1 dX12_those_110 (by decide) ?_
          exact ih σ v3 v4 v5 v6_25 _ _ _ hI (lv_sub hl [1, 2, 3, 4, 5, 6, 0] rfl) h
        · replace h := ite_pos c_24 h; clear c_24
          refine lv_aload_n Γ.1.1 Γ.1.2.1 dX12_those_74 rfl (lv_at hl 0 rfl) ?_
          refine lv_iload Γ.1.1 Γ.1.2.1 dX12_those_75 (lv_at hl 6 rfl) ?_
          refine lv_aload_n Γ.1.1 Γ.1.2.1 dX12_those_77 rfl (lv_at hl 0 rfl) ?_
          obtain ⟨r_26, hr_26, h⟩ := ob_some h
          refine g_ci Γ hI (g_runV (As := []) Γ hI (S_X12_there l X σ r_26 hr_26) mf_X12_there (recv_X12 Γ hI) gw_250 rfl rfl ⟨Nat.le_of_ble_eq_true rfl, Nat.le_of_ble_eq_true rfl⟩ rfl hl.1 rfl (Nat.le_of_ble_eq_true rfl) dX12_those_78 ⟨Nat.zero_le _, Nat.zero_le _⟩) (fun H locs hI => ?_)
          clear hr_26
          obtain ⟨r_28, hr_28, h⟩ := ob_some h
          refine g_ci Γ hI (g_runV (As := [.int v6, .int r_26]) Γ hI (S_X12_isCut l X σ v6 r_26 r_28 hr_28) mf_X12_isCut (recv_X12 Γ hI) gw_260 rfl rfl ⟨Nat.le_of_ble_eq_true rfl, Nat.le_of_ble_eq_true rfl⟩ rfl hl.1 rfl (Nat.le_of_ble_eq_true rfl) dX12_those_81 ⟨Nat.zero_le _, Nat.zero_le _⟩) (fun H locs hI => ?_)
          clear hr_28
          refine lv_if_ne (tgt := 90) Γ.1.1 Γ.1.2.1 dX12_those_84 (by decide) (fun c_30 => ?_) (fun c_30 => ?_)
          · replace h := ite_neg c_30 h; clear c_30
            obtain ⟨v3_31, e_v3_31, h⟩ := nm_some h
            refine lv_iinc (v := v3_31) (lv' := [(3, .int v3_31), (0, .ref (X.2.1 + 60)), (1, .int v1), (2, .int v2), (4, .int v4), (5, .int v5), (6, .int v6)]) Γ.1.1 Γ.1.2.1 dX12_those_90 hl (k := 3) rfl (by rw [e_v3_31]; rfl) (by decide) rfl (fun ls hl => ?_)
            clear e_v3_31
            refine lv_iload Γ.1.1 Γ.1.2.1 dX12_those_93 (lv_at hl 4 rfl) ?_
            refine lv_iload Γ.1.1 Γ.1.2.1 dX12_those_95 (lv_at hl 6 rfl) ?_
            refine lv_iand Γ.1.1 Γ.1.2.1 dX12_those_97 ?_
            refine lv_topi (fun v4_32 e_v4_32 => ?_)
            replace h := nm_at e_v4_32 h; clear e_v4_32
            refine lv_istore (lv' := [(4, .int v4_32), (3, .int v3_31), (0, .ref (X.2.1 + 60)), (1, .int v1), (2, .int v2), (5, .int v5), (6, .int v6)]) Γ.1.1 Γ.1.2.1 dX12_those_98 hl (by decide) rfl (fun ls hl => ?_)
            refine lv_iload Γ.1.1 Γ.1.2.1 dX12_those_100 (lv_at hl 5 rfl) ?_
            refine lv_iload Γ.1.1 Γ.1.2.1 dX12_those_102 (lv_at hl 6 rfl) ?_
            refine lv_ior Γ.1.1 Γ.1.2.1 dX12_those_104 ?_
            refine lv_topi (fun v5_33 e_v5_33 => ?_)
            replace h := nm_at e_v5_33 h; clear e_v5_33
            refine lv_istore (lv' := [(5, .int v5_33), (4, .int v4_32), (3, .int v3_31), (0, .ref (X.2.1 + 60)), (1, .int v1), (2, .int v2), (6, .int v6)]) Γ.1.1 Γ.1.2.1 dX12_those_105 hl (by decide) rfl (fun ls hl => ?_)
            obtain ⟨v6_34, e_v6_34, h⟩ := nm_some h
            refine lv_iinc (v := v6_34) (lv' := [(6, .int v6_34), (5, .int v5_33), (4, .int v4_32), (3, .int v3_31), (0, .ref (X.2.1 + 60)), (1, .int v1), (2, .int v2)]) Γ.1.1 Γ.1.2.1 dX12_those_107 hl (k := 6) rfl (by rw [e_v6_34]; rfl) (by decide) rfl (fun ls hl => ?_)
            clear e_v6_34
            refine lv_goto (tgt := 44) Γ.1.1 Γ.1.2.1 dX12_those_110 (by decide) ?_
            exact ih σ v3_31 v4_32 v5_33 v6_34 _ _ _ hI (lv_sub hl [4, 5, 6, 3, 2, 1, 0] rfl) h
          · replace h := ite_pos c_30 h; clear c_30
            refine lv_goto (tgt := 107) Γ.1.1 Γ.1.2.1 dX12_those_87 (by decide) ?_
            obtain ⟨v6_35, e_v6_35, h⟩ := nm_some h
            refine lv_iinc (v := v6_35) (lv' := [(6, .int v6_35), (0, .ref (X.2.1 + 60)), (1, .int v1), (2, .int v2), (3, .int v3), (4, .int v4), (5, .int v5)]) Γ.1.1 Γ.1.2.1 dX12_those_107 hl (k := 6) rfl (by rw [e_v6_35]; rfl) (by decide) rfl (fun ls hl => ?_)
            clear e_v6_35
            refine lv_goto (tgt := 44) Γ.1.1 Γ.1.2.1 dX12_those_110 (by decide) ?_
            exact ih σ v3 v4 v5 v6_35 _ _ _ hI (lv_sub hl [1, 2, 3, 4, 5, 6, 0] rfl) h
set_option maxRecDepth 20000 in
set_option maxHeartbeats 4000000 in
theorem S_X12_those (l : Launch) (X : GX) (σ : GM) (v1 : Int32) (σr : GM) (x : Int32) (h : f_X12_those σ v1 = some (σr, x)) : gMet l yX12_those cX12_those 7 (some .int) ({ frames := 6, cells := 0, slots := 0, locals := 141 } : Room) X σ [.ref (X.2.1 + 60), .int v1] (gQi X σr x) := by
  unfold f_X12_those at h
  refine gMet_of (lv := [(0, .ref (X.2.1 + 60)), (1, .int v1)]) (by decide) rfl (Nat.le_of_ble_eq_true rfl) rfl (fun p e s m below meth c H ls Γ hI hl => ?_)
  refine lv_aload_n Γ.1.1 Γ.1.2.1 dX12_those_0 rfl (lv_at hl 0 rfl) ?_
  refine lv_iconst (v := (0 : Int32)) Γ.1.1 Γ.1.2.1 dX12_those_1 (by decide) ?_
  refine put_X12_thrown Γ hI gw_211 dX12_those_2 (fun H locs hI => ?_)
  obtain ⟨σ_1, e_m_1, h⟩ := nm_some h
  rw [← e_m_1] at hI; clear e_m_1
  refine lv_iload_n Γ.1.1 Γ.1.2.1 dX12_those_5 rfl (lv_at hl 1 rfl) ?_
  refine lv_iconst (v := (0 : Int32)) Γ.1.1 Γ.1.2.1 dX12_those_6 (by decide) ?_
  refine lv_iconst (v := (2 : Int32)) Γ.1.1 Γ.1.2.1 dX12_those_7 (by decide) ?_
  obtain ⟨r_2, hr_2, h⟩ := ob_some h
  refine g_ci Γ hI (g_runS (As := [.int v1, .int (0 : Int32), .int (2 : Int32)]) Γ hI (S_X12_isIn l X σ_1 v1 (0 : Int32) (2 : Int32) r_2 hr_2) mf_X12_isIn gw_239 rfl rfl ⟨Nat.le_of_ble_eq_true rfl, Nat.le_of_ble_eq_true rfl⟩ rfl hl.1 rfl (Nat.le_of_ble_eq_true rfl) dX12_those_8 ⟨Nat.zero_le _, Nat.zero_le _⟩) (fun H locs hI => ?_)
  clear hr_2
  refine lv_if_ne (tgt := 16) Γ.1.1 Γ.1.2.1 dX12_those_11 (by decide) (fun c_4 => ?_) (fun c_4 => ?_)
  · replace h := ite_neg c_4 h; clear c_4
    refine lv_aload_n Γ.1.1 Γ.1.2.1 dX12_those_16 rfl (lv_at hl 0 rfl) ?_
    refine lv_aload_n Γ.1.1 Γ.1.2.1 dX12_those_17 rfl (lv_at hl 0 rfl) ?_
    obtain ⟨r_5, hr_5, h⟩ := ob_some h
    refine g_ci Γ hI (g_runV (As := []) Γ hI (S_X12_there l X σ_1 r_5 hr_5) mf_X12_there (recv_X12 Γ hI) gw_250 rfl rfl ⟨Nat.le_of_ble_eq_true rfl, Nat.le_of_ble_eq_true rfl⟩ rfl hl.1 rfl (Nat.le_of_ble_eq_true rfl) dX12_those_18 ⟨Nat.zero_le _, Nat.zero_le _⟩) (fun H locs hI => ?_)
    clear hr_5
    refine lv_iconst (v := (0 : Int32)) Γ.1.1 Γ.1.2.1 dX12_those_21 (by decide) ?_
    refine lv_iconst (v := (0 : Int32)) Γ.1.1 Γ.1.2.1 dX12_those_22 (by decide) ?_
    obtain ⟨r_7, hr_7, h⟩ := ob_some h
    refine g_ci Γ hI (g_runV (As := [.int r_5, .int (0 : Int32), .int (0 : Int32)]) Γ hI (S_X12_bestCut l X σ_1 r_5 (0 : Int32) (0 : Int32) r_7 hr_7) mf_X12_bestCut (recv_X12 Γ hI) gw_261 rfl rfl ⟨Nat.le_of_ble_eq_true rfl, Nat.le_of_ble_eq_true rfl⟩ rfl hl.1 rfl (Nat.le_of_ble_eq_true rfl) dX12_those_23 ⟨Nat.zero_le _, Nat.zero_le _⟩) (fun H locs hI => ?_)
    clear hr_7
    obtain ⟨r_9, hr_9, h⟩ := ob_some h
    refine g_ci Γ hI (g_runS (As := [.int r_7]) Γ hI (S_X12_bits l X σ_1 r_7 r_9 hr_9) mf_X12_bits gw_257 rfl rfl ⟨Nat.le_of_ble_eq_true rfl, Nat.le_of_ble_eq_true rfl⟩ rfl hl.1 rfl (Nat.le_of_ble_eq_true rfl) dX12_those_26 ⟨Nat.zero_le _, Nat.zero_le _⟩) (fun H locs hI => ?_)
    clear hr_9
    refine lv_istore_n (lv' := [(2, .int r_9), (0, .ref (X.2.1 + 60)), (1, .int v1)]) Γ.1.1 Γ.1.2.1 dX12_those_29 rfl hl (by decide) rfl (fun ls hl => ?_)
    refine lv_iconst (v := (0 : Int32)) Γ.1.1 Γ.1.2.1 dX12_those_30 (by decide) ?_
    refine lv_istore_n (lv' := [(3, .int (0 : Int32)), (2, .int r_9), (0, .ref (X.2.1 + 60)), (1, .int v1)]) Γ.1.1 Γ.1.2.1 dX12_those_31 rfl hl (by decide) rfl (fun ls hl => ?_)
    refine lv_aload_n Γ.1.1 Γ.1.2.1 dX12_those_32 rfl (lv_at hl 2 rfl) ?_
    obtain ⟨r_11, hr_11, h⟩ := ob_some h
    refine g_ci Γ hI (g_runV (As := []) Γ hI (S_X12_there l X σ_1 r_11 hr_11) mf_X12_there (recv_X12 Γ hI) gw_250 rfl rfl ⟨Nat.le_of_ble_eq_true rfl, Nat.le_of_ble_eq_true rfl⟩ rfl hl.1 rfl (Nat.le_of_ble_eq_true rfl) dX12_those_33 ⟨Nat.zero_le _, Nat.zero_le _⟩) (fun H locs hI => ?_)
    clear hr_11
    refine lv_istore (lv' := [(4, .int r_11), (3, .int (0 : Int32)), (2, .int r_9), (0, .ref (X.2.1 + 60)), (1, .int v1)]) Γ.1.1 Γ.1.2.1 dX12_those_36 hl (by decide) rfl (fun ls hl => ?_)
    refine lv_iconst (v := (0 : Int32)) Γ.1.1 Γ.1.2.1 dX12_those_38 (by decide) ?_
    refine lv_istore (lv' := [(5, .int (0 : Int32)), (4, .int r_11), (3, .int (0 : Int32)), (2, .int r_9), (0, .ref (X.2.1 + 60)), (1, .int v1)]) Γ.1.1 Γ.1.2.1 dX12_those_39 hl (by decide) rfl (fun ls hl => ?_)
    refine lv_iconst (v := (0 : Int32)) Γ.1.1 Γ.1.2.1 dX12_those_41 (by decide) ?_
    refine lv_istore (lv' := [(6, .int (0 : Int32)), (5, .int (0 : Int32)), (4, .int r_11), (3, .int (0 : Int32)), (2, .int r_9), (0, .ref (X.2.1 + 60)), (1, .int v1)]) Γ.1.1 Γ.1.2.1 dX12_those_42 hl (by decide) rfl (fun ls hl => ?_)
    exact s_X12_those_L44 σr x Γ v1 r_9 _ σ_1 (0 : Int32) r_11 (0 : Int32) (0 : Int32) _ _ _ hI (lv_sub hl [5, 6, 4, 3, 2, 1, 0] rfl) h
  · replace h := ite_pos c_4 h; clear c_4
    refine lv_iconst (v := (-1 : Int32)) Γ.1.1 Γ.1.2.1 dX12_those_14 (by decide) ?_
    exact g_iret Γ hI dX12_those_15 (Prod.mk.inj (Option.some.inj h)).1 (Prod.mk.inj (Option.some.inj h)).2
set_option maxRecDepth 20000 in
set_option maxHeartbeats 4000000 in
theorem S_X12_sparing (l : Launch) (X : GX) (σ : GM) (v1 : Int32) (σr : GM) (x : Int32) (h : f_X12_sparing σ v1 = some (σr, x)) : gMet l yX12_sparing cX12_sparing 2 (some .int) ({ frames := 6, cells := 0, slots := 0, locals := 141 } : Room) X σ [.ref (X.2.1 + 60), .int v1] (gQi X σr x) := by
  unfold f_X12_sparing at h
  refine gMet_of (lv := [(0, .ref (X.2.1 + 60)), (1, .int v1)]) (by decide) rfl (Nat.le_of_ble_eq_true rfl) rfl (fun p e s m below meth c H ls Γ hI hl => ?_)
  refine lv_aload_n Γ.1.1 Γ.1.2.1 dX12_sparing_0 rfl (lv_at hl 0 rfl) ?_
  refine lv_iconst (v := (0 : Int32)) Γ.1.1 Γ.1.2.1 dX12_sparing_1 (by decide) ?_
  refine put_X12_thrown Γ hI gw_211 dX12_sparing_2 (fun H locs hI => ?_)
  obtain ⟨σ_1, e_m_1, h⟩ := nm_some h
  rw [← e_m_1] at hI; clear e_m_1
  refine lv_aload_n Γ.1.1 Γ.1.2.1 dX12_sparing_5 rfl (lv_at hl 0 rfl) ?_
  refine lv_iload_n Γ.1.1 Γ.1.2.1 dX12_sparing_6 rfl (lv_at hl 1 rfl) ?_
  obtain ⟨r_2, hr_2, h⟩ := ob_some h
  refine g_ci Γ hI (g_runV (As := [.int v1]) Γ hI (S_X12_areThere l X σ_1 v1 r_2 hr_2) mf_X12_areThere (recv_X12 Γ hI) gw_259 rfl rfl ⟨Nat.le_of_ble_eq_true rfl, Nat.le_of_ble_eq_true rfl⟩ rfl hl.1 rfl (Nat.le_of_ble_eq_true rfl) dX12_sparing_7 ⟨Nat.zero_le _, Nat.zero_le _⟩) (fun H locs hI => ?_)
  clear hr_2
  refine lv_if_eq (tgt := 26) Γ.1.1 Γ.1.2.1 dX12_sparing_10 (by decide) (fun c_4 => ?_) (fun c_4 => ?_)
  · replace h := ite_pos c_4 h; clear c_4
    refine lv_iconst (v := (-1 : Int32)) Γ.1.1 Γ.1.2.1 dX12_sparing_26 (by decide) ?_
    exact g_iret Γ hI dX12_sparing_27 (Prod.mk.inj (Option.some.inj h)).1 (Prod.mk.inj (Option.some.inj h)).2
  · replace h := ite_neg c_4 h; clear c_4
    refine lv_aload_n Γ.1.1 Γ.1.2.1 dX12_sparing_13 rfl (lv_at hl 0 rfl) ?_
    refine lv_aload_n Γ.1.1 Γ.1.2.1 dX12_sparing_14 rfl (lv_at hl 0 rfl) ?_
    obtain ⟨r_5, hr_5, h⟩ := ob_some h
    refine g_ci Γ hI (g_runV (As := []) Γ hI (S_X12_there l X σ_1 r_5 hr_5) mf_X12_there (recv_X12 Γ hI) gw_250 rfl rfl ⟨Nat.le_of_ble_eq_true rfl, Nat.le_of_ble_eq_true rfl⟩ rfl hl.1 rfl (Nat.le_of_ble_eq_true rfl) dX12_sparing_15 ⟨Nat.zero_le _, Nat.zero_le _⟩) (fun H locs hI => ?_)
    clear hr_5
    refine lv_iload_n Γ.1.1 Γ.1.2.1 dX12_sparing_18 rfl (lv_at hl 1 rfl) ?_
    refine lv_iconst (v := (0 : Int32)) Γ.1.1 Γ.1.2.1 dX12_sparing_19 (by decide) ?_
    obtain ⟨r_7, hr_7, h⟩ := ob_some h
    refine g_ci Γ hI (g_runV (As := [.int r_5, .int v1, .int (0 : Int32)]) Γ hI (S_X12_bestCut l X σ_1 r_5 v1 (0 : Int32) r_7 hr_7) mf_X12_bestCut (recv_X12 Γ hI) gw_261 rfl rfl ⟨Nat.le_of_ble_eq_true rfl, Nat.le_of_ble_eq_true rfl⟩ rfl hl.1 rfl (Nat.le_of_ble_eq_true rfl) dX12_sparing_20 ⟨Nat.zero_le _, Nat.zero_le _⟩) (fun H locs hI => ?_)
    clear hr_7
    refine lv_goto (tgt := 27) Γ.1.1 Γ.1.2.1 dX12_sparing_23 (by decide) ?_
    exact g_iret Γ hI dX12_sparing_27 (Prod.mk.inj (Option.some.inj h)).1 (Prod.mk.inj (Option.some.inj h)).2
set_option maxRecDepth 20000 in
set_option maxHeartbeats 4000000 in
theorem S_X12_upTo (l : Launch) (X : GX) (σ : GM) (v1 : Int32) (σr : GM) (x : Int32) (h : f_X12_upTo σ v1 = some (σr, x)) : gMet l yX12_upTo cX12_upTo 2 (some .int) ({ frames := 6, cells := 0, slots := 0, locals := 141 } : Room) X σ [.ref (X.2.1 + 60), .int v1] (gQi X σr x) := by
  unfold f_X12_upTo at h
  refine gMet_of (lv := [(0, .ref (X.2.1 + 60)), (1, .int v1)]) (by decide) rfl (Nat.le_of_ble_eq_true rfl) rfl (fun p e s m below meth c H ls Γ hI hl => ?_)
  refine lv_aload_n Γ.1.1 Γ.1.2.1 dX12_upTo_0 rfl (lv_at hl 0 rfl) ?_
  refine lv_iconst (v := (0 : Int32)) Γ.1.1 Γ.1.2.1 dX12_upTo_1 (by decide) ?_
  refine put_X12_thrown Γ hI gw_211 dX12_upTo_2 (fun H locs hI => ?_)
  obtain ⟨σ_1, e_m_1, h⟩ := nm_some h
  rw [← e_m_1] at hI; clear e_m_1
  refine lv_iload_n Γ.1.1 Γ.1.2.1 dX12_upTo_5 rfl (lv_at hl 1 rfl) ?_
  refine lv_iconst (v := (0 : Int32)) Γ.1.1 Γ.1.2.1 dX12_upTo_6 (by decide) ?_
  refine lv_aload_n Γ.1.1 Γ.1.2.1 dX12_upTo_7 rfl (lv_at hl 0 rfl) ?_
  refine get_X12_now Γ hI gw_244 dX12_upTo_8 ?_
  refine lv_iconst (v := (0 : Int32)) Γ.1.1 Γ.1.2.1 dX12_upTo_11 (by decide) ?_
  obtain ⟨hb_2, h⟩ := bnd_some h
  refine g_iald Γ hI sh_62 hb_2 dX12_upTo_12 ?_
  refine lv_iconst (v := (1 : Int32)) Γ.1.1 Γ.1.2.1 dX12_upTo_13 (by decide) ?_
  refine lv_isub Γ.1.1 Γ.1.2.1 dX12_upTo_14 ?_
  obtain ⟨r_3, hr_3, h⟩ := ob_some h
  refine g_ci Γ hI (g_runS (As := [.int v1, .int (0 : Int32), .int ((σ_1.1 62 (0 : Int32).toNatClampNeg) - (1 : Int32))]) Γ hI (S_X12_isIn l X σ_1 v1 (0 : Int32) ((σ_1.1 62 (0 : Int32).toNatClampNeg) - (1 : Int32)) r_3 hr_3) mf_X12_isIn gw_239 rfl rfl ⟨Nat.le_of_ble_eq_true rfl, Nat.le_of_ble_eq_true rfl⟩ rfl hl.1 rfl (Nat.le_of_ble_eq_true rfl) dX12_upTo_15 ⟨Nat.zero_le _, Nat.zero_le _⟩) (fun H locs hI => ?_)
  clear hr_3
  refine lv_if_eq (tgt := 43) Γ.1.1 Γ.1.2.1 dX12_upTo_18 (by decide) (fun c_5 => ?_) (fun c_5 => ?_)
  · replace h := ite_pos c_5 h; clear c_5
    refine lv_iconst (v := (-1 : Int32)) Γ.1.1 Γ.1.2.1 dX12_upTo_43 (by decide) ?_
    exact g_iret Γ hI dX12_upTo_44 (Prod.mk.inj (Option.some.inj h)).1 (Prod.mk.inj (Option.some.inj h)).2
  · replace h := ite_neg c_5 h; clear c_5
    refine lv_aload_n Γ.1.1 Γ.1.2.1 dX12_upTo_21 rfl (lv_at hl 0 rfl) ?_
    refine lv_aload_n Γ.1.1 Γ.1.2.1 dX12_upTo_22 rfl (lv_at hl 0 rfl) ?_
    obtain ⟨r_6, hr_6, h⟩ := ob_some h
    refine g_ci Γ hI (g_runV (As := []) Γ hI (S_X12_there l X σ_1 r_6 hr_6) mf_X12_there (recv_X12 Γ hI) gw_250 rfl rfl ⟨Nat.le_of_ble_eq_true rfl, Nat.le_of_ble_eq_true rfl⟩ rfl hl.1 rfl (Nat.le_of_ble_eq_true rfl) dX12_upTo_23 ⟨Nat.zero_le _, Nat.zero_le _⟩) (fun H locs hI => ?_)
    clear hr_6
    refine lv_iconst (v := (2 : Int32)) Γ.1.1 Γ.1.2.1 dX12_upTo_26 (by decide) ?_
    refine lv_iload_n Γ.1.1 Γ.1.2.1 dX12_upTo_27 rfl (lv_at hl 1 rfl) ?_
    refine lv_ishl Γ.1.1 Γ.1.2.1 dX12_upTo_28 ?_
    refine lv_iconst (v := (1 : Int32)) Γ.1.1 Γ.1.2.1 dX12_upTo_29 (by decide) ?_
    refine lv_isub Γ.1.1 Γ.1.2.1 dX12_upTo_30 ?_
    refine lv_iand Γ.1.1 Γ.1.2.1 dX12_upTo_31 ?_
    refine lv_iconst (v := (0 : Int32)) Γ.1.1 Γ.1.2.1 dX12_upTo_32 (by decide) ?_
    refine lv_iconst (v := (0 : Int32)) Γ.1.1 Γ.1.2.1 dX12_upTo_33 (by decide) ?_
    obtain ⟨r_8, hr_8, h⟩ := ob_some h
    refine g_ci Γ hI (g_runV (As := [.int (r_6 &&& (((2 : Int32) <<< (v1 &&& 31)) - (1 : Int32))), .int (0 : Int32), .int (0 : Int32)]) Γ hI (S_X12_bestCut l X σ_1 (r_6 &&& (((2 : Int32) <<< (v1 &&& 31)) - (1 : Int32))) (0 : Int32) (0 : Int32) r_8 hr_8) mf_X12_bestCut (recv_X12 Γ hI) gw_261 rfl rfl ⟨Nat.le_of_ble_eq_true rfl, Nat.le_of_ble_eq_true rfl⟩ rfl hl.1 rfl (Nat.le_of_ble_eq_true rfl) dX12_upTo_34 ⟨Nat.zero_le _, Nat.zero_le _⟩) (fun H locs hI => ?_)
    clear hr_8
    obtain ⟨r_10, hr_10, h⟩ := ob_some h
    refine g_ci Γ hI (g_runS (As := [.int r_8]) Γ hI (S_X12_bits l X σ_1 r_8 r_10 hr_10) mf_X12_bits gw_257 rfl rfl ⟨Nat.le_of_ble_eq_true rfl, Nat.le_of_ble_eq_true rfl⟩ rfl hl.1 rfl (Nat.le_of_ble_eq_true rfl) dX12_upTo_37 ⟨Nat.zero_le _, Nat.zero_le _⟩) (fun H locs hI => ?_)
    clear hr_10
    refine lv_goto (tgt := 44) Γ.1.1 Γ.1.2.1 dX12_upTo_40 (by decide) ?_
    exact g_iret Γ hI dX12_upTo_44 (Prod.mk.inj (Option.some.inj h)).1 (Prod.mk.inj (Option.some.inj h)).2
set_option maxRecDepth 20000 in
set_option maxHeartbeats 4000000 in
theorem s_X12_goes_L66 {p : Program} {l : Launch} {e : Env} {s : State} {m : MethodId} {args : Array Value} {below : List Frame} {meth : Method} {c : Code} {X : GX} (d : Nat) (kr : GM → Int32 → Int32 → Int32 → Int64 → Option GM) (hkr : ∀ (σ0 : GM) (b0 : Int32) (b1 : Int32) (b2 : Int32) (b3 : Int64) (σ9 : GM) , kr σ0 b0 b1 b2 b3 = some σ9 → gMet l yX12_goes cX12_goes 8 none ({ frames := d + 1, cells := 0, slots := 0, locals := d * 27 + 22 } : Room) X σ0 [.ref (X.2.1 + 60), .int b0, .int b1, .int b2, .long b3] (gQv X σ9)) (σr : GM) (Γ : gC X p m meth c cX12_goes 8 s args RX12 none) (v1 : Int32) (v2 : Int32) (v3 : Int32) (v4 : Int64) (k3 : GM → Int32 → Option GM) (hk3 : ∀ (σ : GM) (v6 : Int32) (H : Heap) (locs : List Loc) (ls : Array Slot), gI X σ s H locs → lv_has ls 8 [(0, .ref (X.2.1 + 60)), (1, .int v1), (2, .int v2), (3, .int v3), (4, .long v4), (6, .int v6)] → k3 σ v6 = some σr → W p l e ({ frames := d + 1 + 1, cells := 0, slots := 0, locals := (d + 1) * 27 + 22 } : Room) s m args below meth c H locs 0 0 (MQ below (gQv X σr) args s 0 0 (gA X)) (F0 m 3 ls [])) :
    ∀ (σ : GM) (v6 : Int32) (v7 : Int32) (H : Heap) (locs : List Loc) (ls : Array Slot), gI X σ s H locs → lv_has ls 8 [(0, .ref (X.2.1 + 60)), (1, .int v1), (2, .int v2), (3, .int v3), (4, .long v4), (6, .int v6), (7, .int v7)] → f_X12_goes_L66 kr k3 v1 v2 v3 v4 σ v6 v7 = some σr →
    W p l e ({ frames := d + 1 + 1, cells := 0, slots := 0, locals := (d + 1) * 27 + 22 } : Room) s m args below meth c H locs 0 0 (MQ below (gQv X σr) args s 0 0 (gA X)) (F0 m 66 ls []) := by
  intro σ v6 v7 H locs ls hI hl h
  unfold f_X12_goes_L66 at h
  refine lv_iload Γ.1.1 Γ.1.2.1 dX12_goes_66 (lv_at hl 5 rfl) ?_
  refine lv_iload_n Γ.1.1 Γ.1.2.1 dX12_goes_68 rfl (lv_at hl 2 rfl) ?_
  refine lv_icmp_eq (tgt := 100) Γ.1.1 Γ.1.2.1 dX12_goes_69 (by decide) (fun c_6 => ?_) (fun c_6 => ?_)
  · replace h := ite_pos c_6 h; clear c_6
    obtain ⟨v6_7, e_v6_7, h⟩ := nm_some h
    refine lv_iinc (v := v6_7) (lv' := [(6, .int v6_7), (0, .ref (X.2.1 + 60)), (1, .int v1), (2, .int v2), (3, .int v3), (4, .long v4), (7, .int v7)]) Γ.1.1 Γ.1.2.1 dX12_goes_100 hl (k := 5) rfl (by rw [e_v6_7]; rfl) (by decide) rfl (fun ls hl => ?_)
    clear e_v6_7
    refine lv_goto (tgt := 3) Γ.1.1 Γ.1.2.1 dX12_goes_103 (by decide) ?_
    exact hk3 σ v6_7 _ _ _ hI (lv_sub hl [1, 2, 3, 4, 5, 0] rfl) h
  · replace h := ite_neg c_6 h; clear c_6
    refine lv_iload_n Γ.1.1 Γ.1.2.1 dX12_goes_72 rfl (lv_at hl 3 rfl) ?_
    refine lv_iload Γ.1.1 Γ.1.2.1 dX12_goes_73 (lv_at hl 5 rfl) ?_
    obtain ⟨r_8, hr_8, h⟩ := ob_some h
    refine g_ci Γ hI (g_runS (As := [.int v3, .int v6]) Γ hI (S_X12_has l X σ v3 v6 r_8 hr_8) mf_X12_has gw_212 rfl rfl ⟨by show 0 + 1 ≤ d + 1 + 1; omega, by show 8 + (2 + 11) + 0 ≤ (d + 1) * 27 + 22; omega⟩ rfl hl.1 rfl (Nat.le_of_ble_eq_true rfl) dX12_goes_75 ⟨Nat.zero_le _, Nat.zero_le _⟩) (fun H locs hI => ?_)
    clear hr_8
    refine lv_if_ne (tgt := 100) Γ.1.1 Γ.1.2.1 dX12_goes_78 (by decide) (fun c_10 => ?_) (fun c_10 => ?_)
    · replace h := ite_neg c_10 h; clear c_10
      obtain ⟨v6_11, e_v6_11, h⟩ := nm_some h
      refine lv_iinc (v := v6_11) (lv' := [(6, .int v6_11), (0, .ref (X.2.1 + 60)), (1, .int v1), (2, .int v2), (3, .int v3), (4, .long v4), (7, .int v7)]) Γ.1.1 Γ.1.2.1 dX12_goes_100 hl (k := 5) rfl (by rw [e_v6_11]; rfl) (by decide) rfl (fun ls hl => ?_)
      clear e_v6_11
      refine lv_goto (tgt := 3) Γ.1.1 Γ.1.2.1 dX12_goes_103 (by decide) ?_
      exact hk3 σ v6_11 _ _ _ hI (lv_sub hl [1, 2, 3, 4, 5, 0] rfl) h
    · replace h := ite_pos c_10 h; clear c_10
      refine lv_aload_n Γ.1.1 Γ.1.2.1 dX12_goes_81 rfl (lv_at hl 0 rfl) ?_
      refine lv_iload_n Γ.1.1 Γ.1.2.1 dX12_goes_82 rfl (lv_at hl 1 rfl) ?_
      refine lv_iload Γ.1.1 Γ.1.2.1 dX12_goes_83 (lv_at hl 5 rfl) ?_
      refine lv_iload_n Γ.1.1 Γ.1.2.1 dX12_goes_85 rfl (lv_at hl 3 rfl) ?_
      refine lv_iconst (v := (1 : Int32)) Γ.1.1 Γ.1.2.1 dX12_goes_86 (by decide) ?_
      refine lv_iload Γ.1.1 Γ.1.2.1 dX12_goes_87 (lv_at hl 5 rfl) ?_
      refine lv_ishl Γ.1.1 Γ.1.2.1 dX12_goes_89 ?_
      refine lv_ior Γ.1.1 Γ.1.2.1 dX12_goes_90 ?_
      refine lv_lload Γ.1.1 Γ.1.2.1 dX12_goes_91 (lv_at hl 4 rfl) ?_
      refine lv_iload Γ.1.1 Γ.1.2.1 dX12_goes_93 (lv_at hl 6 rfl) ?_
      refine lv_i2l (v := (v7.toInt64)) Γ.1.1 Γ.1.2.1 dX12_goes_95 rfl ?_
      refine lv_lmul Γ.1.1 Γ.1.2.1 dX12_goes_96 ?_
      obtain ⟨σ_13, hr_12, h⟩ := ob_some h
      refine g_cv Γ hI (g_runV (As := [.int v1, .int v6, .int (v3 ||| ((1 : Int32) <<< (v6 &&& 31))), .long (v4 * (v7.toInt64))]) Γ hI (hkr σ v1 v6 (v3 ||| ((1 : Int32) <<< (v6 &&& 31))) (v4 * (v7.toInt64)) σ_13 hr_12) mf_X12_goes (recv_X12 Γ hI) gw_263 rfl rfl ⟨by show d + 1 + 1 ≤ d + 1 + 1; omega, by show 8 + (8 + 11) + (d * 27 + 22) ≤ (d + 1) * 27 + 22; omega⟩ rfl hl.1 rfl (Nat.le_of_ble_eq_true rfl) dX12_goes_97 ⟨Nat.zero_le _, Nat.zero_le _⟩) (fun H locs hI => ?_)
      clear hr_12
      obtain ⟨v6_14, e_v6_14, h⟩ := nm_some h
      refine lv_iinc (v := v6_14) (lv' := [(6, .int v6_14), (0, .ref (X.2.1 + 60)), (1, .int v1), (2, .int v2), (3, .int v3), (4, .long v4), (7, .int v7)]) Γ.1.1 Γ.1.2.1 dX12_goes_100 hl (k := 5) rfl (by rw [e_v6_14]; rfl) (by decide) rfl (fun ls hl => ?_)
      clear e_v6_14
      refine lv_goto (tgt := 3) Γ.1.1 Γ.1.2.1 dX12_goes_103 (by decide) ?_
      exact hk3 σ_13 v6_14 _ _ _ hI (lv_sub hl [1, 2, 3, 4, 5, 0] rfl) h
set_option maxRecDepth 20000 in
set_option maxHeartbeats 4000000 in
theorem s_X12_goes_L3 {p : Program} {l : Launch} {e : Env} {s : State} {m : MethodId} {args : Array Value} {below : List Frame} {meth : Method} {c : Code} {X : GX} (d : Nat) (kr : GM → Int32 → Int32 → Int32 → Int64 → Option GM) (hkr : ∀ (σ0 : GM) (b0 : Int32) (b1 : Int32) (b2 : Int32) (b3 : Int64) (σ9 : GM) , kr σ0 b0 b1 b2 b3 = some σ9 → gMet l yX12_goes cX12_goes 8 none ({ frames := d + 1, cells := 0, slots := 0, locals := d * 27 + 22 } : Room) X σ0 [.ref (X.2.1 + 60), .int b0, .int b1, .int b2, .long b3] (gQv X σ9)) (σr : GM) (Γ : gC X p m meth c cX12_goes 8 s args RX12 none) (v1 : Int32) (v2 : Int32) (v3 : Int32) (v4 : Int64) :
    ∀ (k : Nat) (σ : GM) (v6 : Int32) (H : Heap) (locs : List Loc) (ls : Array Slot), gI X σ s H locs → lv_has ls 8 [(0, .ref (X.2.1 + 60)), (1, .int v1), (2, .int v2), (3, .int v3), (4, .long v4), (6, .int v6)] → f_X12_goes_L3 kr v1 v2 v3 v4 k σ v6 = some σr →
    W p l e ({ frames := d + 1 + 1, cells := 0, slots := 0, locals := (d + 1) * 27 + 22 } : Room) s m args below meth c H locs 0 0 (MQ below (gQv X σr) args s 0 0 (gA X)) (F0 m 3 ls []) := by
  intro k
  induction k with
  | zero =>
    intro σ v6 H locs ls hI hl h
    exact absurd h (by simp [f_X12_goes_L3])
  | succ k ih =>
    intro σ v6 H locs ls hI hl h
    unfold f_X12_goes_L3 at h
    refine lv_iload Γ.1.1 Γ.1.2.1 dX12_goes_3 (lv_at hl 5 rfl) ?_
    refine lv_bipush (v := (12 : Int32)) Γ.1.1 Γ.1.2.1 dX12_goes_5 (by decide) ?_
    refine lv_icmp_ge (tgt := 106) Γ.1.1 Γ.1.2.1 dX12_goes_7 (by decide) (fun c_1 => ?_) (fun c_1 => ?_)
    · replace h := ite_pos c_1 h; clear c_1
      exact g_vret Γ hI dX12_goes_106 (Option.some.inj h)
    · replace h := ite_neg c_1 h; clear c_1
      refine lv_aload_n Γ.1.1 Γ.1.2.1 dX12_goes_10 rfl (lv_at hl 0 rfl) ?_
      refine get_X12_now Γ hI gw_244 dX12_goes_11 ?_
      refine lv_iload_n Γ.1.1 Γ.1.2.1 dX12_goes_14 rfl (lv_at hl 2 rfl) ?_
      refine lv_iload Γ.1.1 Γ.1.2.1 dX12_goes_15 (lv_at hl 5 rfl) ?_
      obtain ⟨r_2, hr_2, h⟩ := ob_some h
      refine g_ci Γ hI (g_runS (As := [.ref (X.2.1 + 62), .int v2, .int v6]) Γ hI (S_X12_between l X σ 62 sh_62 v2 v6 r_2 hr_2) mf_X12_between gw_232 rfl rfl ⟨by show 0 + 1 ≤ d + 1 + 1; omega, by show 8 + (3 + 11) + 0 ≤ (d + 1) * 27 + 22; omega⟩ rfl hl.1 rfl (Nat.le_of_ble_eq_true rfl) dX12_goes_17 ⟨Nat.zero_le _, Nat.zero_le _⟩) (fun H locs hI => ?_)
      clear hr_2
      refine lv_istore (lv' := [(7, .int r_2), (0, .ref (X.2.1 + 60)), (1, .int v1), (2, .int v2), (3, .int v3), (4, .long v4), (6, .int v6)]) Γ.1.1 Γ.1.2.1 dX12_goes_20 hl (by decide) rfl (fun ls hl => ?_)
      refine lv_iload Γ.1.1 Γ.1.2.1 dX12_goes_22 (lv_at hl 0 rfl) ?_
      refine lv_if_ne (tgt := 30) Γ.1.1 Γ.1.2.1 dX12_goes_24 (by decide) (fun c_4 => ?_) (fun c_4 => ?_)
      · replace h := ite_neg c_4 h; clear c_4
        refine lv_iload Γ.1.1 Γ.1.2.1 dX12_goes_30 (lv_at hl 6 rfl) ?_
        refine lv_iload_n Γ.1.1 Γ.1.2.1 dX12_goes_32 rfl (lv_at hl 2 rfl) ?_
        refine lv_icmp_ne (tgt := 66) Γ.1.1 Γ.1.2.1 dX12_goes_33 (by decide) (fun c_5 => ?_) (fun c_5 => ?_)
        · replace h := ite_neg c_5 h; clear c_5
          exact s_X12_goes_L66 d kr hkr σr Γ v1 v2 v3 v4 _ ih σ v6 r_2 _ _ _ hI (lv_sub hl [1, 2, 3, 4, 5, 6, 0] rfl) h
        · replace h := ite_pos c_5 h; clear c_5
          refine lv_iload_n Γ.1.1 Γ.1.2.1 dX12_goes_36 rfl (lv_at hl 4 rfl) ?_
          obtain ⟨r_15, hr_15, h⟩ := ob_some h
          refine g_ci Γ hI (g_runS (As := [.int v3]) Γ hI (S_X12_bits l X σ v3 r_15 hr_15) mf_X12_bits gw_257 rfl rfl ⟨by show 0 + 1 ≤ d + 1 + 1; omega, by show 8 + (3 + 11) + 0 ≤ (d + 1) * 27 + 22; omega⟩ rfl hl.1 rfl (Nat.le_of_ble_eq_true rfl) dX12_goes_37 ⟨Nat.zero_le _, Nat.zero_le _⟩) (fun H locs hI => ?_)
          clear hr_15
          refine lv_iconst (v := (2 : Int32)) Γ.1.1 Γ.1.2.1 dX12_goes_40 (by decide) ?_
          refine lv_icmp_le (tgt := 66) Γ.1.1 Γ.1.2.1 dX12_goes_41 (by decide) (fun c_17 => ?_) (fun c_17 => ?_)
          · replace h := ite_pos c_17 h; clear c_17
            exact s_X12_goes_L66 d kr hkr σr Γ v1 v2 v3 v4 _ ih σ v6 r_2 _ _ _ hI (lv_sub hl [1, 2, 3, 4, 5, 6, 0] rfl) h
          · replace h := ite_neg c_17 h; clear c_17
            refine lv_aload_n Γ.1.1 Γ.1.2.1 dX12_goes_44 rfl (lv_at hl 1 rfl) ?_
            refine lv_dup Γ.1.1 Γ.1.2.1 dX12_goes_45 rfl ?_
            refine get_X12_ringMany Γ hI gw_264 dX12_goes_46 ?_
            refine lv_lload Γ.1.1 Γ.1.2.1 dX12_goes_49 (lv_at hl 5 rfl) ?_
            refine lv_iload Γ.1.1 Γ.1.2.1 dX12_goes_51 (lv_at hl 0 rfl) ?_
            refine lv_i2l (v := (r_2.toInt64)) Γ.1.1 Γ.1.2.1 dX12_goes_53 rfl ?_
            refine lv_lmul Γ.1.1 Γ.1.2.1 dX12_goes_54 ?_
            refine lv_ladd Γ.1.1 Γ.1.2.1 dX12_goes_55 ?_
            refine put_X12_ringMany Γ hI gw_264 dX12_goes_56 (fun H locs hI => ?_)
            obtain ⟨σ_18, e_m_18, h⟩ := nm_some h
            rw [← e_m_18] at hI; clear e_m_18
            refine lv_aload_n Γ.1.1 Γ.1.2.1 dX12_goes_59 rfl (lv_at hl 1 rfl) ?_
            refine get_X12_isRing Γ hI gw_265 dX12_goes_60 ?_
            refine lv_iload_n Γ.1.1 Γ.1.2.1 dX12_goes_63 rfl (lv_at hl 4 rfl) ?_
            refine lv_iconst (v := (1 : Int32)) Γ.1.1 Γ.1.2.1 dX12_goes_64 (by decide) ?_
            obtain ⟨hb_19, h⟩ := bnd_some h
            refine g_zast Γ hI sh_70 hb_19 dX12_goes_65 (fun H locs hI => ?_)
            obtain ⟨σ_20, e_m_20, h⟩ := nm_some h
            rw [← e_m_20] at hI; clear e_m_20
            exact s_X12_goes_L66 d kr hkr σr Γ v1 v2 v3 v4 _ ih σ_20 v6 r_2 _ _ _ hI (lv_sub hl [1, 2, 3, 4, 5, 6, 0] rfl) h
      · replace h := ite_pos c_4 h; clear c_4
        refine lv_goto (tgt := 100) Γ.1.1 Γ.1.2.1 dX12_goes_27 (by decide) ?_
        obtain ⟨v6_21, e_v6_21, h⟩ := nm_some h
        refine lv_iinc (v := v6_21) (lv' := [(6, .int v6_21), (7, .int r_2), (0, .ref (X.2.1 + 60)), (1, .int v1), (2, .int v2), (3, .int v3), (4, .long v4)]) Γ.1.1 Γ.1.2.1 dX12_goes_100 hl (k := 6) rfl (by rw [e_v6_21]; rfl) (by decide) rfl (fun ls hl => ?_)
        clear e_v6_21
        refine lv_goto (tgt := 3) Γ.1.1 Γ.1.2.1 dX12_goes_103 (by decide) ?_
        exact ih σ v6_21 _ _ _ hI (lv_sub hl [2, 3, 4, 5, 6, 0] rfl) h
set_option maxRecDepth 20000 in
set_option maxHeartbeats 4000000 in
theorem S_X12_goes (l : Launch) (X : GX) : ∀ (d : Nat) (σ : GM) (v1 : Int32) (v2 : Int32) (v3 : Int32) (v4 : Int64) (σr : GM) , f_X12_goes d σ v1 v2 v3 v4 = some σr → gMet l yX12_goes cX12_goes 8 none ({ frames := d + 1, cells := 0, slots := 0, locals := d * 27 + 22 } : Room) X σ [.ref (X.2.1 + 60), .int v1, .int v2, .int v3, .long v4] (gQv X σr) := by
  intro d
  induction d with
  | zero =>
    intro σ v1 v2 v3 v4 σr h
    exact absurd h (by simp [f_X12_goes])
  | succ d ihd =>
    intro σ v1 v2 v3 v4 σr h
    unfold f_X12_goes at h
    refine gMet_of (lv := [(0, .ref (X.2.1 + 60)), (1, .int v1), (2, .int v2), (3, .int v3), (4, .long v4)]) (by decide) rfl (Nat.le_of_ble_eq_true rfl) rfl (fun p e s m below meth c H ls Γ hI hl => ?_)
    refine lv_iload_n Γ.1.1 Γ.1.2.1 dX12_goes_0 rfl (lv_at hl 1 rfl) ?_
    refine lv_istore (lv' := [(6, .int v1), (0, .ref (X.2.1 + 60)), (1, .int v1), (2, .int v2), (3, .int v3), (4, .long v4)]) Γ.1.1 Γ.1.2.1 dX12_goes_1 hl (by decide) rfl (fun ls hl => ?_)
    exact s_X12_goes_L3 d _ ihd σr Γ v1 v2 v3 v4 _ σ v1 _ _ _ hI (lv_sub hl [1, 2, 3, 4, 5, 0] rfl) h
set_option maxRecDepth 20000 in
set_option maxHeartbeats 4000000 in
theorem s_X12_laysRings_L115 {p : Program} {l : Launch} {e : Env} {s : State} {m : MethodId} {args : Array Value} {below : List Frame} {meth : Method} {c : Code} {X : GX} (σr : GM) (Γ : gC X p m meth c cX12_laysRings 4 s args RX12 none) (v1 : Int32) (k65 : GM → Int32 → Option GM) (hk65 : ∀ (σ : GM) (v1 : Int32) (H : Heap) (locs : List Loc) (ls : Array Slot), gI X σ s H locs → lv_has ls 4 [(0, .ref (X.2.1 + 60)), (1, .int v1)] → k65 σ v1 = some σr → W p l e ({ frames := 16, cells := 0, slots := 0, locals := 427 } : Room) s m args below meth c H locs 0 0 (MQ below (gQv X σr) args s 0 0 (gA X)) (F0 m 65 ls [])) :
    ∀ (k : Nat) (σ : GM) (v2 : Int32) (H : Heap) (locs : List Loc) (ls : Array Slot), gI X σ s H locs → lv_has ls 4 [(0, .ref (X.2.1 + 60)), (1, .int v1), (2, .int v2)] → f_X12_laysRings_L115 k65 v1 k σ v2 = some σr →
    W p l e ({ frames := 16, cells := 0, slots := 0, locals := 427 } : Room) s m args below meth c H locs 0 0 (MQ below (gQv X σr) args s 0 0 (gA X)) (F0 m 115 ls []) := by
  intro k
  induction k with
  | zero =>
    intro σ v2 H locs ls hI hl h
    exact absurd h (by simp [f_X12_laysRings_L115])
  | succ k ih =>
    intro σ v2 H locs ls hI hl h
    unfold f_X12_laysRings_L115 at h
    refine lv_iload_n Γ.1.1 Γ.1.2.1 dX12_laysRings_115 rfl (lv_at hl 2 rfl) ?_
    refine lv_bipush (v := (12 : Int32)) Γ.1.1 Γ.1.2.1 dX12_laysRings_116 (by decide) ?_
    refine lv_icmp_ge (tgt := 172) Γ.1.1 Γ.1.2.1 dX12_laysRings_118 (by decide) (fun c_14 => ?_) (fun c_14 => ?_)
    · replace h := ite_pos c_14 h; clear c_14
      obtain ⟨v1_15, e_v1_15, h⟩ := nm_some h
      refine lv_iinc (v := v1_15) (lv' := [(1, .int v1_15), (0, .ref (X.2.1 + 60)), (2, .int v2)]) Γ.1.1 Γ.1.2.1 dX12_laysRings_172 hl (k := 1) rfl (by rw [e_v1_15]; rfl) (by decide) rfl (fun ls hl => ?_)
      clear e_v1_15
      refine lv_goto (tgt := 65) Γ.1.1 Γ.1.2.1 dX12_laysRings_175 (by decide) ?_
      exact hk65 σ v1_15 _ _ _ hI (lv_sub hl [1, 0] rfl) h
    · replace h := ite_neg c_14 h; clear c_14
      refine lv_aload_n Γ.1.1 Γ.1.2.1 dX12_laysRings_121 rfl (lv_at hl 0 rfl) ?_
      refine get_X12_now Γ hI gw_244 dX12_laysRings_122 ?_
      refine lv_iload_n Γ.1.1 Γ.1.2.1 dX12_laysRings_125 rfl (lv_at hl 1 rfl) ?_
      refine lv_iload_n Γ.1.1 Γ.1.2.1 dX12_laysRings_126 rfl (lv_at hl 2 rfl) ?_
      obtain ⟨r_16, hr_16, h⟩ := ob_some h
      refine g_ci Γ hI (g_runS (As := [.ref (X.2.1 + 62), .int v1, .int v2]) Γ hI (S_X12_between l X σ 62 sh_62 v1 v2 r_16 hr_16) mf_X12_between gw_232 rfl rfl ⟨Nat.le_of_ble_eq_true rfl, Nat.le_of_ble_eq_true rfl⟩ rfl hl.1 rfl (Nat.le_of_ble_eq_true rfl) dX12_laysRings_127 ⟨Nat.zero_le _, Nat.zero_le _⟩) (fun H locs hI => ?_)
      clear hr_16
      refine lv_istore_n (lv' := [(3, .int r_16), (0, .ref (X.2.1 + 60)), (1, .int v1), (2, .int v2)]) Γ.1.1 Γ.1.2.1 dX12_laysRings_130 rfl hl (by decide) rfl (fun ls hl => ?_)
      refine lv_aload_n Γ.1.1 Γ.1.2.1 dX12_laysRings_131 rfl (lv_at hl 1 rfl) ?_
      refine lv_dup Γ.1.1 Γ.1.2.1 dX12_laysRings_132 rfl ?_
      refine get_X12_ringMany Γ hI gw_264 dX12_laysRings_133 ?_
      refine lv_iload_n Γ.1.1 Γ.1.2.1 dX12_laysRings_136 rfl (lv_at hl 0 rfl) ?_
      refine lv_iload_n Γ.1.1 Γ.1.2.1 dX12_laysRings_137 rfl (lv_at hl 0 rfl) ?_
      refine lv_iconst (v := (1 : Int32)) Γ.1.1 Γ.1.2.1 dX12_laysRings_138 (by decide) ?_
      refine lv_isub Γ.1.1 Γ.1.2.1 dX12_laysRings_139 ?_
      refine lv_imul Γ.1.1 Γ.1.2.1 dX12_laysRings_140 ?_
      refine lv_iconst (v := (2 : Int32)) Γ.1.1 Γ.1.2.1 dX12_laysRings_141 (by decide) ?_
      obtain ⟨hz_18, h⟩ := nz_some h
      refine lv_idiv Γ.1.1 Γ.1.2.1 dX12_laysRings_142 hz_18 ?_
      refine lv_i2l (v := ((((r_16 * (r_16 - (1 : Int32))) / (2 : Int32))).toInt64)) Γ.1.1 Γ.1.2.1 dX12_laysRings_143 rfl ?_
      refine lv_ladd Γ.1.1 Γ.1.2.1 dX12_laysRings_144 ?_
      refine put_X12_ringMany Γ hI gw_264 dX12_laysRings_145 (fun H locs hI => ?_)
      obtain ⟨σ_19, e_m_19, h⟩ := nm_some h
      rw [← e_m_19] at hI; clear e_m_19
      refine lv_iload_n Γ.1.1 Γ.1.2.1 dX12_laysRings_148 rfl (lv_at hl 0 rfl) ?_
      refine lv_iconst (v := (1 : Int32)) Γ.1.1 Γ.1.2.1 dX12_laysRings_149 (by decide) ?_
      refine lv_icmp_le (tgt := 166) Γ.1.1 Γ.1.2.1 dX12_laysRings_150 (by decide) (fun c_20 => ?_) (fun c_20 => ?_)
      · replace h := ite_pos c_20 h; clear c_20
        obtain ⟨v2_21, e_v2_21, h⟩ := nm_some h
        refine lv_iinc (v := v2_21) (lv' := [(2, .int v2_21), (3, .int r_16), (0, .ref (X.2.1 + 60)), (1, .int v1)]) Γ.1.1 Γ.1.2.1 dX12_laysRings_166 hl (k := 3) rfl (by rw [e_v2_21]; rfl) (by decide) rfl (fun ls hl => ?_)
        clear e_v2_21
        refine lv_goto (tgt := 115) Γ.1.1 Γ.1.2.1 dX12_laysRings_169 (by decide) ?_
        exact ih σ_19 v2_21 _ _ _ hI (lv_sub hl [2, 3, 0] rfl) h
      · replace h := ite_neg c_20 h; clear c_20
        refine lv_aload_n Γ.1.1 Γ.1.2.1 dX12_laysRings_153 rfl (lv_at hl 1 rfl) ?_
        refine get_X12_isRing Γ hI gw_265 dX12_laysRings_154 ?_
        refine lv_iconst (v := (1 : Int32)) Γ.1.1 Γ.1.2.1 dX12_laysRings_157 (by decide) ?_
        refine lv_iload_n Γ.1.1 Γ.1.2.1 dX12_laysRings_158 rfl (lv_at hl 2 rfl) ?_
        refine lv_ishl Γ.1.1 Γ.1.2.1 dX12_laysRings_159 ?_
        refine lv_iconst (v := (1 : Int32)) Γ.1.1 Γ.1.2.1 dX12_laysRings_160 (by decide) ?_
        refine lv_iload_n Γ.1.1 Γ.1.2.1 dX12_laysRings_161 rfl (lv_at hl 3 rfl) ?_
        refine lv_ishl Γ.1.1 Γ.1.2.1 dX12_laysRings_162 ?_
        refine lv_ior Γ.1.1 Γ.1.2.1 dX12_laysRings_163 ?_
        refine lv_iconst (v := (1 : Int32)) Γ.1.1 Γ.1.2.1 dX12_laysRings_164 (by decide) ?_
        obtain ⟨hb_22, h⟩ := bnd_some h
        refine g_zast Γ hI sh_70 hb_22 dX12_laysRings_165 (fun H locs hI => ?_)
        obtain ⟨σ_23, e_m_23, h⟩ := nm_some h
        rw [← e_m_23] at hI; clear e_m_23
        obtain ⟨v2_24, e_v2_24, h⟩ := nm_some h
        refine lv_iinc (v := v2_24) (lv' := [(2, .int v2_24), (3, .int r_16), (0, .ref (X.2.1 + 60)), (1, .int v1)]) Γ.1.1 Γ.1.2.1 dX12_laysRings_166 hl (k := 3) rfl (by rw [e_v2_24]; rfl) (by decide) rfl (fun ls hl => ?_)
        clear e_v2_24
        refine lv_goto (tgt := 115) Γ.1.1 Γ.1.2.1 dX12_laysRings_169 (by decide) ?_
        exact ih σ_23 v2_24 _ _ _ hI (lv_sub hl [2, 3, 0] rfl) h
set_option maxRecDepth 20000 in
set_option maxHeartbeats 4000000 in
theorem s_X12_laysRings_L111 {p : Program} {l : Launch} {e : Env} {s : State} {m : MethodId} {args : Array Value} {below : List Frame} {meth : Method} {c : Code} {X : GX} (σr : GM) (Γ : gC X p m meth c cX12_laysRings 4 s args RX12 none) (k65 : GM → Int32 → Option GM) (hk65 : ∀ (σ : GM) (v1 : Int32) (H : Heap) (locs : List Loc) (ls : Array Slot), gI X σ s H locs → lv_has ls 4 [(0, .ref (X.2.1 + 60)), (1, .int v1)] → k65 σ v1 = some σr → W p l e ({ frames := 16, cells := 0, slots := 0, locals := 427 } : Room) s m args below meth c H locs 0 0 (MQ below (gQv X σr) args s 0 0 (gA X)) (F0 m 65 ls [])) :
    ∀ (σ : GM) (v1 : Int32) (H : Heap) (locs : List Loc) (ls : Array Slot), gI X σ s H locs → lv_has ls 4 [(0, .ref (X.2.1 + 60)), (1, .int v1)] → f_X12_laysRings_L111 k65 σ v1 = some σr →
    W p l e ({ frames := 16, cells := 0, slots := 0, locals := 427 } : Room) s m args below meth c H locs 0 0 (MQ below (gQv X σr) args s 0 0 (gA X)) (F0 m 111 ls []) := by
  intro σ v1 H locs ls hI hl h
  unfold f_X12_laysRings_L111 at h
  refine lv_iload_n Γ.1.1 Γ.1.2.1 dX12_laysRings_111 rfl (lv_at hl 1 rfl) ?_
  refine lv_iconst (v := (1 : Int32)) Γ.1.1 Γ.1.2.1 dX12_laysRings_112 (by decide) ?_
  refine lv_iadd Γ.1.1 Γ.1.2.1 dX12_laysRings_113 ?_
  refine lv_topi (fun v2_13 e_v2_13 => ?_)
  replace h := nm_at e_v2_13 h; clear e_v2_13
  refine lv_istore_n (lv' := [(2, .int v2_13), (0, .ref (X.2.1 + 60)), (1, .int v1)]) Γ.1.1 Γ.1.2.1 dX12_laysRings_114 rfl hl (by decide) rfl (fun ls hl => ?_)
  exact s_X12_laysRings_L115 σr Γ v1 _ hk65 _ σ v2_13 _ _ _ hI (lv_sub hl [1, 2, 0] rfl) h
set_option maxRecDepth 20000 in
set_option maxHeartbeats 4000000 in
theorem s_X12_laysRings_L65 {p : Program} {l : Launch} {e : Env} {s : State} {m : MethodId} {args : Array Value} {below : List Frame} {meth : Method} {c : Code} {X : GX} (σr : GM) (Γ : gC X p m meth c cX12_laysRings 4 s args RX12 none) :
    ∀ (k : Nat) (σ : GM) (v1 : Int32) (H : Heap) (locs : List Loc) (ls : Array Slot), gI X σ s H locs → lv_has ls 4 [(0, .ref (X.2.1 + 60)), (1, .int v1)] → f_X12_laysRings_L65 k σ v1 = some σr →
    W p l e ({ frames := 16, cells := 0, slots := 0, locals := 427 } : Room) s m args below meth c H locs 0 0 (MQ below (gQv X σr) args s 0 0 (gA X)) (F0 m 65 ls []) := by
  intro k
  induction k with
  | zero =>
    intro σ v1 H locs ls hI hl h
    exact absurd h (by simp [f_X12_laysRings_L65])
  | succ k ih =>
    intro σ v1 H locs ls hI hl h
    unfold f_X12_laysRings_L65 at h
    refine lv_iload_n Γ.1.1 Γ.1.2.1 dX12_laysRings_65 rfl (lv_at hl 1 rfl) ?_
    refine lv_bipush (v := (12 : Int32)) Γ.1.1 Γ.1.2.1 dX12_laysRings_66 (by decide) ?_
    refine lv_icmp_ge (tgt := 178) Γ.1.1 Γ.1.2.1 dX12_laysRings_68 (by decide) (fun c_6 => ?_) (fun c_6 => ?_)
    · replace h := ite_pos c_6 h; clear c_6
      exact g_vret Γ hI dX12_laysRings_178 (Option.some.inj h)
    · replace h := ite_neg c_6 h; clear c_6
      refine lv_aload_n Γ.1.1 Γ.1.2.1 dX12_laysRings_71 rfl (lv_at hl 0 rfl) ?_
      refine lv_dup Γ.1.1 Γ.1.2.1 dX12_laysRings_72 rfl ?_
      refine get_X12_ringMany Γ hI gw_264 dX12_laysRings_73 ?_
      refine lv_aload_n Γ.1.1 Γ.1.2.1 dX12_laysRings_76 rfl (lv_at hl 0 rfl) ?_
      refine get_X12_now Γ hI gw_244 dX12_laysRings_77 ?_
      refine lv_iload_n Γ.1.1 Γ.1.2.1 dX12_laysRings_80 rfl (lv_at hl 1 rfl) ?_
      refine lv_iload_n Γ.1.1 Γ.1.2.1 dX12_laysRings_81 rfl (lv_at hl 1 rfl) ?_
      obtain ⟨r_7, hr_7, h⟩ := ob_some h
      refine g_ci Γ hI (g_runS (As := [.ref (X.2.1 + 62), .int v1, .int v1]) Γ hI (S_X12_between l X σ 62 sh_62 v1 v1 r_7 hr_7) mf_X12_between gw_232 rfl rfl ⟨Nat.le_of_ble_eq_true rfl, Nat.le_of_ble_eq_true rfl⟩ rfl hl.1 rfl (Nat.le_of_ble_eq_true rfl) dX12_laysRings_82 ⟨Nat.zero_le _, Nat.zero_le _⟩) (fun H locs hI => ?_)
      clear hr_7
      refine lv_i2l (v := (r_7.toInt64)) Γ.1.1 Γ.1.2.1 dX12_laysRings_85 rfl ?_
      refine lv_ladd Γ.1.1 Γ.1.2.1 dX12_laysRings_86 ?_
      refine put_X12_ringMany Γ hI gw_264 dX12_laysRings_87 (fun H locs hI => ?_)
      obtain ⟨σ_9, e_m_9, h⟩ := nm_some h
      rw [← e_m_9] at hI; clear e_m_9
      refine lv_aload_n Γ.1.1 Γ.1.2.1 dX12_laysRings_90 rfl (lv_at hl 0 rfl) ?_
      refine get_X12_now Γ hI gw_244 dX12_laysRings_91 ?_
      refine lv_iload_n Γ.1.1 Γ.1.2.1 dX12_laysRings_94 rfl (lv_at hl 1 rfl) ?_
      refine lv_iload_n Γ.1.1 Γ.1.2.1 dX12_laysRings_95 rfl (lv_at hl 1 rfl) ?_
      obtain ⟨r_10, hr_10, h⟩ := ob_some h
      refine g_ci Γ hI (g_runS (As := [.ref (X.2.1 + 62), .int v1, .int v1]) Γ hI (S_X12_between l X σ_9 62 sh_62 v1 v1 r_10 hr_10) mf_X12_between gw_232 rfl rfl ⟨Nat.le_of_ble_eq_true rfl, Nat.le_of_ble_eq_true rfl⟩ rfl hl.1 rfl (Nat.le_of_ble_eq_true rfl) dX12_laysRings_96 ⟨Nat.zero_le _, Nat.zero_le _⟩) (fun H locs hI => ?_)
      clear hr_10
      refine lv_if_le (tgt := 111) Γ.1.1 Γ.1.2.1 dX12_laysRings_99 (by decide) (fun c_12 => ?_) (fun c_12 => ?_)
      · replace h := ite_pos c_12 h; clear c_12
        exact s_X12_laysRings_L111 σr Γ _ ih σ_9 v1 _ _ _ hI hl h
      · replace h := ite_neg c_12 h; clear c_12
        refine lv_aload_n Γ.1.1 Γ.1.2.1 dX12_laysRings_102 rfl (lv_at hl 0 rfl) ?_
        refine get_X12_isRing Γ hI gw_265 dX12_laysRings_103 ?_
        refine lv_iconst (v := (1 : Int32)) Γ.1.1 Γ.1.2.1 dX12_laysRings_106 (by decide) ?_
        refine lv_iload_n Γ.1.1 Γ.1.2.1 dX12_laysRings_107 rfl (lv_at hl 1 rfl) ?_
        refine lv_ishl Γ.1.1 Γ.1.2.1 dX12_laysRings_108 ?_
        refine lv_iconst (v := (1 : Int32)) Γ.1.1 Γ.1.2.1 dX12_laysRings_109 (by decide) ?_
        obtain ⟨hb_25, h⟩ := bnd_some h
        refine g_zast Γ hI sh_70 hb_25 dX12_laysRings_110 (fun H locs hI => ?_)
        obtain ⟨σ_26, e_m_26, h⟩ := nm_some h
        rw [← e_m_26] at hI; clear e_m_26
        exact s_X12_laysRings_L111 σr Γ _ ih σ_26 v1 _ _ _ hI hl h
set_option maxRecDepth 20000 in
set_option maxHeartbeats 4000000 in
theorem s_X12_laysRings_L51 {p : Program} {l : Launch} {e : Env} {s : State} {m : MethodId} {args : Array Value} {below : List Frame} {meth : Method} {c : Code} {X : GX} (σr : GM) (Γ : gC X p m meth c cX12_laysRings 4 s args RX12 none) :
    ∀ (σ : GM) (H : Heap) (locs : List Loc) (ls : Array Slot), gI X σ s H locs → lv_has ls 4 [(0, .ref (X.2.1 + 60))] → f_X12_laysRings_L51 σ = some σr →
    W p l e ({ frames := 16, cells := 0, slots := 0, locals := 427 } : Room) s m args below meth c H locs 0 0 (MQ below (gQv X σr) args s 0 0 (gA X)) (F0 m 51 ls []) := by
  intro σ H locs ls hI hl h
  unfold f_X12_laysRings_L51 at h
  refine lv_aload_n Γ.1.1 Γ.1.2.1 dX12_laysRings_51 rfl (lv_at hl 0 rfl) ?_
  refine lv_dup Γ.1.1 Γ.1.2.1 dX12_laysRings_52 rfl ?_
  refine get_X12_ringMany Γ hI gw_264 dX12_laysRings_53 ?_
  refine lv_ldc2 (v := (2 : Int64)) Γ.1.1 Γ.1.2.1 Γ.1.2.2.2.1 (Γ.1.2.2.2.2 _ gw_266) dX12_laysRings_56 ?_
  obtain ⟨hz_4, h⟩ := nzl_some h
  refine lv_ldiv Γ.1.1 Γ.1.2.1 dX12_laysRings_59 hz_4 ?_
  refine put_X12_ringMany Γ hI gw_264 dX12_laysRings_60 (fun H locs hI => ?_)
  obtain ⟨σ_5, e_m_5, h⟩ := nm_some h
  rw [← e_m_5] at hI; clear e_m_5
  refine lv_iconst (v := (0 : Int32)) Γ.1.1 Γ.1.2.1 dX12_laysRings_63 (by decide) ?_
  refine lv_istore_n (lv' := [(1, .int (0 : Int32)), (0, .ref (X.2.1 + 60))]) Γ.1.1 Γ.1.2.1 dX12_laysRings_64 rfl hl (by decide) rfl (fun ls hl => ?_)
  exact s_X12_laysRings_L65 σr Γ _ σ_5 (0 : Int32) _ _ _ hI (lv_sub hl [1, 0] rfl) h
set_option maxRecDepth 20000 in
set_option maxHeartbeats 4000000 in
theorem s_X12_laysRings_L29 {p : Program} {l : Launch} {e : Env} {s : State} {m : MethodId} {args : Array Value} {below : List Frame} {meth : Method} {c : Code} {X : GX} (σr : GM) (Γ : gC X p m meth c cX12_laysRings 4 s args RX12 none) :
    ∀ (k : Nat) (σ : GM) (v1 : Int32) (H : Heap) (locs : List Loc) (ls : Array Slot), gI X σ s H locs → lv_has ls 4 [(0, .ref (X.2.1 + 60)), (1, .int v1)] → f_X12_laysRings_L29 k σ v1 = some σr →
    W p l e ({ frames := 16, cells := 0, slots := 0, locals := 427 } : Room) s m args below meth c H locs 0 0 (MQ below (gQv X σr) args s 0 0 (gA X)) (F0 m 29 ls []) := by
  intro k
  induction k with
  | zero =>
    intro σ v1 H locs ls hI hl h
    exact absurd h (by simp [f_X12_laysRings_L29])
  | succ k ih =>
    intro σ v1 H locs ls hI hl h
    unfold f_X12_laysRings_L29 at h
    refine lv_iload_n Γ.1.1 Γ.1.2.1 dX12_laysRings_29 rfl (lv_at hl 1 rfl) ?_
    refine lv_bipush (v := (12 : Int32)) Γ.1.1 Γ.1.2.1 dX12_laysRings_30 (by decide) ?_
    refine lv_icmp_ge (tgt := 51) Γ.1.1 Γ.1.2.1 dX12_laysRings_32 (by decide) (fun c_3 => ?_) (fun c_3 => ?_)
    · replace h := ite_pos c_3 h; clear c_3
      exact s_X12_laysRings_L51 σr Γ σ _ _ _ hI (lv_sub hl [0] rfl) h
    · replace h := ite_neg c_3 h; clear c_3
      refine lv_aload_n Γ.1.1 Γ.1.2.1 dX12_laysRings_35 rfl (lv_at hl 0 rfl) ?_
      refine lv_iload_n Γ.1.1 Γ.1.2.1 dX12_laysRings_36 rfl (lv_at hl 1 rfl) ?_
      refine lv_iload_n Γ.1.1 Γ.1.2.1 dX12_laysRings_37 rfl (lv_at hl 1 rfl) ?_
      refine lv_iconst (v := (1 : Int32)) Γ.1.1 Γ.1.2.1 dX12_laysRings_38 (by decide) ?_
      refine lv_iload_n Γ.1.1 Γ.1.2.1 dX12_laysRings_39 rfl (lv_at hl 1 rfl) ?_
      refine lv_ishl Γ.1.1 Γ.1.2.1 dX12_laysRings_40 ?_
      refine lv_lconst (v := (1 : Int64)) Γ.1.1 Γ.1.2.1 dX12_laysRings_41 (by decide) ?_
      obtain ⟨σ_28, hr_27, h⟩ := ob_some h
      refine g_cv Γ hI (g_runV (As := [.int v1, .int v1, .int ((1 : Int32) <<< (v1 &&& 31)), .long (1 : Int64)]) Γ hI (S_X12_goes l X 14 σ v1 v1 ((1 : Int32) <<< (v1 &&& 31)) (1 : Int64) σ_28 hr_27) mf_X12_goes (recv_X12 Γ hI) gw_263 rfl rfl ⟨Nat.le_of_ble_eq_true rfl, Nat.le_of_ble_eq_true rfl⟩ rfl hl.1 rfl (Nat.le_of_ble_eq_true rfl) dX12_laysRings_42 ⟨Nat.zero_le _, Nat.zero_le _⟩) (fun H locs hI => ?_)
      clear hr_27
      obtain ⟨v1_29, e_v1_29, h⟩ := nm_some h
      refine lv_iinc (v := v1_29) (lv' := [(1, .int v1_29), (0, .ref (X.2.1 + 60))]) Γ.1.1 Γ.1.2.1 dX12_laysRings_45 hl (k := 1) rfl (by rw [e_v1_29]; rfl) (by decide) rfl (fun ls hl => ?_)
      clear e_v1_29
      refine lv_goto (tgt := 29) Γ.1.1 Γ.1.2.1 dX12_laysRings_48 (by decide) ?_
      exact ih σ_28 v1_29 _ _ _ hI (lv_sub hl [1, 0] rfl) h
set_option maxRecDepth 20000 in
set_option maxHeartbeats 4000000 in
theorem s_X12_laysRings_L7 {p : Program} {l : Launch} {e : Env} {s : State} {m : MethodId} {args : Array Value} {below : List Frame} {meth : Method} {c : Code} {X : GX} (σr : GM) (Γ : gC X p m meth c cX12_laysRings 4 s args RX12 none) :
    ∀ (k : Nat) (σ : GM) (v1 : Int32) (H : Heap) (locs : List Loc) (ls : Array Slot), gI X σ s H locs → lv_has ls 4 [(0, .ref (X.2.1 + 60)), (1, .int v1)] → f_X12_laysRings_L7 k σ v1 = some σr →
    W p l e ({ frames := 16, cells := 0, slots := 0, locals := 427 } : Room) s m args below meth c H locs 0 0 (MQ below (gQv X σr) args s 0 0 (gA X)) (F0 m 7 ls []) := by
  intro k
  induction k with
  | zero =>
    intro σ v1 H locs ls hI hl h
    exact absurd h (by simp [f_X12_laysRings_L7])
  | succ k ih =>
    intro σ v1 H locs ls hI hl h
    unfold f_X12_laysRings_L7 at h
    refine lv_iload_n Γ.1.1 Γ.1.2.1 dX12_laysRings_7 rfl (lv_at hl 1 rfl) ?_
    refine lv_sipush (v := (4096 : Int32)) Γ.1.1 Γ.1.2.1 dX12_laysRings_8 (by decide) ?_
    refine lv_icmp_ge (tgt := 27) Γ.1.1 Γ.1.2.1 dX12_laysRings_11 (by decide) (fun c_2 => ?_) (fun c_2 => ?_)
    · replace h := ite_pos c_2 h; clear c_2
      refine lv_iconst (v := (0 : Int32)) Γ.1.1 Γ.1.2.1 dX12_laysRings_27 (by decide) ?_
      refine lv_istore_n (lv' := [(1, .int (0 : Int32)), (0, .ref (X.2.1 + 60))]) Γ.1.1 Γ.1.2.1 dX12_laysRings_28 rfl hl (by decide) rfl (fun ls hl => ?_)
      exact s_X12_laysRings_L29 σr Γ _ σ (0 : Int32) _ _ _ hI (lv_sub hl [1, 0] rfl) h
    · replace h := ite_neg c_2 h; clear c_2
      refine lv_aload_n Γ.1.1 Γ.1.2.1 dX12_laysRings_14 rfl (lv_at hl 0 rfl) ?_
      refine get_X12_isRing Γ hI gw_265 dX12_laysRings_15 ?_
      refine lv_iload_n Γ.1.1 Γ.1.2.1 dX12_laysRings_18 rfl (lv_at hl 1 rfl) ?_
      refine lv_iconst (v := (0 : Int32)) Γ.1.1 Γ.1.2.1 dX12_laysRings_19 (by decide) ?_
      obtain ⟨hb_30, h⟩ := bnd_some h
      refine g_zast Γ hI sh_70 hb_30 dX12_laysRings_20 (fun H locs hI => ?_)
      obtain ⟨σ_31, e_m_31, h⟩ := nm_some h
      rw [← e_m_31] at hI; clear e_m_31
      obtain ⟨v1_32, e_v1_32, h⟩ := nm_some h
      refine lv_iinc (v := v1_32) (lv' := [(1, .int v1_32), (0, .ref (X.2.1 + 60))]) Γ.1.1 Γ.1.2.1 dX12_laysRings_21 hl (k := 1) rfl (by rw [e_v1_32]; rfl) (by decide) rfl (fun ls hl => ?_)
      clear e_v1_32
      refine lv_goto (tgt := 7) Γ.1.1 Γ.1.2.1 dX12_laysRings_24 (by decide) ?_
      exact ih σ_31 v1_32 _ _ _ hI (lv_sub hl [1, 0] rfl) h
set_option maxRecDepth 20000 in
set_option maxHeartbeats 4000000 in
theorem S_X12_laysRings (l : Launch) (X : GX) (σ : GM) (σr : GM) (h : f_X12_laysRings σ = some σr) : gMet l yX12_laysRings cX12_laysRings 4 none ({ frames := 16, cells := 0, slots := 0, locals := 427 } : Room) X σ [.ref (X.2.1 + 60)] (gQv X σr) := by
  unfold f_X12_laysRings at h
  refine gMet_of (lv := [(0, .ref (X.2.1 + 60))]) (by decide) rfl (Nat.le_of_ble_eq_true rfl) rfl (fun p e s m below meth c H ls Γ hI hl => ?_)
  refine lv_aload_n Γ.1.1 Γ.1.2.1 dX12_laysRings_0 rfl (lv_at hl 0 rfl) ?_
  refine lv_lconst (v := (0 : Int64)) Γ.1.1 Γ.1.2.1 dX12_laysRings_1 (by decide) ?_
  refine put_X12_ringMany Γ hI gw_264 dX12_laysRings_2 (fun H locs hI => ?_)
  obtain ⟨σ_1, e_m_1, h⟩ := nm_some h
  rw [← e_m_1] at hI; clear e_m_1
  refine lv_iconst (v := (0 : Int32)) Γ.1.1 Γ.1.2.1 dX12_laysRings_5 (by decide) ?_
  refine lv_istore_n (lv' := [(1, .int (0 : Int32)), (0, .ref (X.2.1 + 60))]) Γ.1.1 Γ.1.2.1 dX12_laysRings_6 rfl hl (by decide) rfl (fun ls hl => ?_)
  exact s_X12_laysRings_L7 σr Γ _ σ_1 (0 : Int32) _ _ _ hI (lv_sub hl [1, 0] rfl) h
set_option maxRecDepth 20000 in
set_option maxHeartbeats 4000000 in
theorem S_X12_rings (l : Launch) (X : GX) (σ : GM) (σr : GM) (x : Int64) (h : f_X12_rings σ = some (σr, x)) : gMet l yX12_rings cX12_rings 1 (some .long) ({ frames := 17, cells := 0, slots := 0, locals := 450 } : Room) X σ [.ref (X.2.1 + 60)] (gQl X σr x) := by
  unfold f_X12_rings at h
  refine gMet_of (lv := [(0, .ref (X.2.1 + 60))]) (by decide) rfl (Nat.le_of_ble_eq_true rfl) rfl (fun p e s m below meth c H ls Γ hI hl => ?_)
  refine lv_aload_n Γ.1.1 Γ.1.2.1 dX12_rings_0 rfl (lv_at hl 0 rfl) ?_
  refine lv_iconst (v := (0 : Int32)) Γ.1.1 Γ.1.2.1 dX12_rings_1 (by decide) ?_
  refine put_X12_thrown Γ hI gw_211 dX12_rings_2 (fun H locs hI => ?_)
  obtain ⟨σ_1, e_m_1, h⟩ := nm_some h
  rw [← e_m_1] at hI; clear e_m_1
  refine lv_aload_n Γ.1.1 Γ.1.2.1 dX12_rings_5 rfl (lv_at hl 0 rfl) ?_
  obtain ⟨σ_3, hr_2, h⟩ := ob_some h
  refine g_cv Γ hI (g_runV (As := []) Γ hI (S_X12_laysRings l X σ_1 σ_3 hr_2) mf_X12_laysRings (recv_X12 Γ hI) gw_267 rfl rfl ⟨Nat.le_of_ble_eq_true rfl, Nat.le_of_ble_eq_true rfl⟩ rfl hl.1 rfl (Nat.le_of_ble_eq_true rfl) dX12_rings_6 ⟨Nat.zero_le _, Nat.zero_le _⟩) (fun H locs hI => ?_)
  clear hr_2
  refine lv_aload_n Γ.1.1 Γ.1.2.1 dX12_rings_9 rfl (lv_at hl 0 rfl) ?_
  refine get_X12_ringMany Γ hI gw_264 dX12_rings_10 ?_
  exact g_lret Γ hI dX12_rings_13 (Prod.mk.inj (Option.some.inj h)).1 (Prod.mk.inj (Option.some.inj h)).2
set_option maxRecDepth 20000 in
set_option maxHeartbeats 4000000 in
theorem s_X12_shortest_L13 {p : Program} {l : Launch} {e : Env} {s : State} {m : MethodId} {args : Array Value} {below : List Frame} {meth : Method} {c : Code} {X : GX} (σr : GM) (x : Int32) (Γ : gC X p m meth c cX12_shortest 3 s args RX12 (some .int)) :
    ∀ (k : Nat) (σ : GM) (v1 : Int32) (v2 : Int32) (H : Heap) (locs : List Loc) (ls : Array Slot), gI X σ s H locs → lv_has ls 3 [(0, .ref (X.2.1 + 60)), (1, .int v1), (2, .int v2)] → f_X12_shortest_L13 k σ v1 v2 = some (σr, x) →
    W p l e ({ frames := 17, cells := 0, slots := 0, locals := 450 } : Room) s m args below meth c H locs 0 0 (MQ below (gQi X σr x) args s 0 0 (gA X)) (F0 m 13 ls []) := by
  intro k
  induction k with
  | zero =>
    intro σ v1 v2 H locs ls hI hl h
    exact absurd h (by simp [f_X12_shortest_L13])
  | succ k ih =>
    intro σ v1 v2 H locs ls hI hl h
    unfold f_X12_shortest_L13 at h
    refine lv_iload_n Γ.1.1 Γ.1.2.1 dX12_shortest_13 rfl (lv_at hl 2 rfl) ?_
    refine lv_sipush (v := (4096 : Int32)) Γ.1.1 Γ.1.2.1 dX12_shortest_14 (by decide) ?_
    refine lv_icmp_ge (tgt := 52) Γ.1.1 Γ.1.2.1 dX12_shortest_17 (by decide) (fun c_4 => ?_) (fun c_4 => ?_)
    · replace h := ite_pos c_4 h; clear c_4
      refine lv_iload_n Γ.1.1 Γ.1.2.1 dX12_shortest_52 rfl (lv_at hl 1 rfl) ?_
      exact g_iret Γ hI dX12_shortest_53 (Prod.mk.inj (Option.some.inj h)).1 (Prod.mk.inj (Option.some.inj h)).2
    · replace h := ite_neg c_4 h; clear c_4
      refine lv_aload_n Γ.1.1 Γ.1.2.1 dX12_shortest_20 rfl (lv_at hl 0 rfl) ?_
      refine get_X12_isRing Γ hI gw_265 dX12_shortest_21 ?_
      refine lv_iload_n Γ.1.1 Γ.1.2.1 dX12_shortest_24 rfl (lv_at hl 2 rfl) ?_
      obtain ⟨hb_5, h⟩ := bnd_some h
      refine g_zald Γ hI sh_70 hb_5 dX12_shortest_25 ?_
      refine lv_if_eq (tgt := 46) Γ.1.1 Γ.1.2.1 dX12_shortest_26 (by decide) (fun c_6 => ?_) (fun c_6 => ?_)
      · replace h := ite_pos c_6 h; clear c_6
        obtain ⟨v2_7, e_v2_7, h⟩ := nm_some h
        refine lv_iinc (v := v2_7) (lv' := [(2, .int v2_7), (0, .ref (X.2.1 + 60)), (1, .int v1)]) Γ.1.1 Γ.1.2.1 dX12_shortest_46 hl (k := 2) rfl (by rw [e_v2_7]; rfl) (by decide) rfl (fun ls hl => ?_)
        clear e_v2_7
        refine lv_goto (tgt := 13) Γ.1.1 Γ.1.2.1 dX12_shortest_49 (by decide) ?_
        exact ih σ v1 v2_7 _ _ _ hI (lv_sub hl [1, 2, 0] rfl) h
      · replace h := ite_neg c_6 h; clear c_6
        refine lv_iload_n Γ.1.1 Γ.1.2.1 dX12_shortest_29 rfl (lv_at hl 1 rfl) ?_
        refine lv_if_eq (tgt := 44) Γ.1.1 Γ.1.2.1 dX12_shortest_30 (by decide) (fun c_8 => ?_) (fun c_8 => ?_)
        · replace h := ite_pos c_8 h; clear c_8
          refine lv_iload_n Γ.1.1 Γ.1.2.1 dX12_shortest_44 rfl (lv_at hl 2 rfl) ?_
          refine lv_istore_n (lv' := [(1, .int v2), (0, .ref (X.2.1 + 60)), (2, .int v2)]) Γ.1.1 Γ.1.2.1 dX12_shortest_45 rfl hl (by decide) rfl (fun ls hl => ?_)
          obtain ⟨v2_9, e_v2_9, h⟩ := nm_some h
          refine lv_iinc (v := v2_9) (lv' := [(2, .int v2_9), (1, .int v2), (0, .ref (X.2.1 + 60))]) Γ.1.1 Γ.1.2.1 dX12_shortest_46 hl (k := 2) rfl (by rw [e_v2_9]; rfl) (by decide) rfl (fun ls hl => ?_)
          clear e_v2_9
          refine lv_goto (tgt := 13) Γ.1.1 Γ.1.2.1 dX12_shortest_49 (by decide) ?_
          exact ih σ v2 v2_9 _ _ _ hI (lv_sub hl [2, 1, 0] rfl) h
        · replace h := ite_neg c_8 h; clear c_8
          refine lv_iload_n Γ.1.1 Γ.1.2.1 dX12_shortest_33 rfl (lv_at hl 2 rfl) ?_
          obtain ⟨r_10, hr_10, h⟩ := ob_some h
          refine g_ci Γ hI (g_runS (As := [.int v2]) Γ hI (S_X12_bits l X σ v2 r_10 hr_10) mf_X12_bits gw_257 rfl rfl ⟨Nat.le_of_ble_eq_true rfl, Nat.le_of_ble_eq_true rfl⟩ rfl hl.1 rfl (Nat.le_of_ble_eq_true rfl) dX12_shortest_34 ⟨Nat.zero_le _, Nat.zero_le _⟩) (fun H locs hI => ?_)
          clear hr_10
          refine lv_iload_n Γ.1.1 Γ.1.2.1 dX12_shortest_37 rfl (lv_at hl 1 rfl) ?_
          obtain ⟨r_12, hr_12, h⟩ := ob_some h
          refine g_ci Γ hI (g_runS (As := [.int v1]) Γ hI (S_X12_bits l X σ v1 r_12 hr_12) mf_X12_bits gw_257 rfl rfl ⟨Nat.le_of_ble_eq_true rfl, Nat.le_of_ble_eq_true rfl⟩ rfl hl.1 rfl (Nat.le_of_ble_eq_true rfl) dX12_shortest_38 ⟨Nat.zero_le _, Nat.zero_le _⟩) (fun H locs hI => ?_)
          clear hr_12
          refine lv_icmp_ge (tgt := 46) Γ.1.1 Γ.1.2.1 dX12_shortest_41 (by decide) (fun c_14 => ?_) (fun c_14 => ?_)
          · replace h := ite_pos c_14 h; clear c_14
            obtain ⟨v2_15, e_v2_15, h⟩ := nm_some h
            refine lv_iinc (v := v2_15) (lv' := [(2, .int v2_15), (0, .ref (X.2.1 + 60)), (1, .int v1)]) Γ.1.1 Γ.1.2.1 dX12_shortest_46 hl (k := 2) rfl (by rw [e_v2_15]; rfl) (by decide) rfl (fun ls hl => ?_)
            clear e_v2_15
            refine lv_goto (tgt := 13) Γ.1.1 Γ.1.2.1 dX12_shortest_49 (by decide) ?_
            exact ih σ v1 v2_15 _ _ _ hI (lv_sub hl [1, 2, 0] rfl) h
          · replace h := ite_neg c_14 h; clear c_14
            refine lv_iload_n Γ.1.1 Γ.1.2.1 dX12_shortest_44 rfl (lv_at hl 2 rfl) ?_
            refine lv_istore_n (lv' := [(1, .int v2), (0, .ref (X.2.1 + 60)), (2, .int v2)]) Γ.1.1 Γ.1.2.1 dX12_shortest_45 rfl hl (by decide) rfl (fun ls hl => ?_)
            obtain ⟨v2_16, e_v2_16, h⟩ := nm_some h
            refine lv_iinc (v := v2_16) (lv' := [(2, .int v2_16), (1, .int v2), (0, .ref (X.2.1 + 60))]) Γ.1.1 Γ.1.2.1 dX12_shortest_46 hl (k := 2) rfl (by rw [e_v2_16]; rfl) (by decide) rfl (fun ls hl => ?_)
            clear e_v2_16
            refine lv_goto (tgt := 13) Γ.1.1 Γ.1.2.1 dX12_shortest_49 (by decide) ?_
            exact ih σ v2 v2_16 _ _ _ hI (lv_sub hl [2, 1, 0] rfl) h
set_option maxRecDepth 20000 in
set_option maxHeartbeats 4000000 in
theorem S_X12_shortest (l : Launch) (X : GX) (σ : GM) (σr : GM) (x : Int32) (h : f_X12_shortest σ = some (σr, x)) : gMet l yX12_shortest cX12_shortest 3 (some .int) ({ frames := 17, cells := 0, slots := 0, locals := 450 } : Room) X σ [.ref (X.2.1 + 60)] (gQi X σr x) := by
  unfold f_X12_shortest at h
  refine gMet_of (lv := [(0, .ref (X.2.1 + 60))]) (by decide) rfl (Nat.le_of_ble_eq_true rfl) rfl (fun p e s m below meth c H ls Γ hI hl => ?_)
  refine lv_aload_n Γ.1.1 Γ.1.2.1 dX12_shortest_0 rfl (lv_at hl 0 rfl) ?_
  refine lv_iconst (v := (0 : Int32)) Γ.1.1 Γ.1.2.1 dX12_shortest_1 (by decide) ?_
  refine put_X12_thrown Γ hI gw_211 dX12_shortest_2 (fun H locs hI => ?_)
  obtain ⟨σ_1, e_m_1, h⟩ := nm_some h
  rw [← e_m_1] at hI; clear e_m_1
  refine lv_aload_n Γ.1.1 Γ.1.2.1 dX12_shortest_5 rfl (lv_at hl 0 rfl) ?_
  obtain ⟨σ_3, hr_2, h⟩ := ob_some h
  refine g_cv Γ hI (g_runV (As := []) Γ hI (S_X12_laysRings l X σ_1 σ_3 hr_2) mf_X12_laysRings (recv_X12 Γ hI) gw_267 rfl rfl ⟨Nat.le_of_ble_eq_true rfl, Nat.le_of_ble_eq_true rfl⟩ rfl hl.1 rfl (Nat.le_of_ble_eq_true rfl) dX12_shortest_6 ⟨Nat.zero_le _, Nat.zero_le _⟩) (fun H locs hI => ?_)
  clear hr_2
  refine lv_iconst (v := (0 : Int32)) Γ.1.1 Γ.1.2.1 dX12_shortest_9 (by decide) ?_
  refine lv_istore_n (lv' := [(1, .int (0 : Int32)), (0, .ref (X.2.1 + 60))]) Γ.1.1 Γ.1.2.1 dX12_shortest_10 rfl hl (by decide) rfl (fun ls hl => ?_)
  refine lv_iconst (v := (1 : Int32)) Γ.1.1 Γ.1.2.1 dX12_shortest_11 (by decide) ?_
  refine lv_istore_n (lv' := [(2, .int (1 : Int32)), (1, .int (0 : Int32)), (0, .ref (X.2.1 + 60))]) Γ.1.1 Γ.1.2.1 dX12_shortest_12 rfl hl (by decide) rfl (fun ls hl => ?_)
  exact s_X12_shortest_L13 σr x Γ _ σ_3 (0 : Int32) (1 : Int32) _ _ _ hI (lv_sub hl [2, 1, 0] rfl) h
set_option maxRecDepth 20000 in
set_option maxHeartbeats 4000000 in
theorem s_X12_laysApart_L94 {p : Program} {l : Launch} {e : Env} {s : State} {m : MethodId} {args : Array Value} {below : List Frame} {meth : Method} {c : Code} {X : GX} (σr : GM) (Γ : gC X p m meth c cX12_laysApart 5 s args RX12 none) (v1 : Int32) (v2 : Int32) (v3 : Int32) (k6 : GM → Int32 → Option GM) (hk6 : ∀ (σ : GM) (v1 : Int32) (H : Heap) (locs : List Loc) (ls : Array Slot), gI X σ s H locs → lv_has ls 5 [(0, .ref (X.2.1 + 60)), (1, .int v1)] → k6 σ v1 = some σr → W p l e ({ frames := 17, cells := 0, slots := 0, locals := 450 } : Room) s m args below meth c H locs 0 0 (MQ below (gQv X σr) args s 0 0 (gA X)) (F0 m 6 ls [])) (k41 : GM → Int32 → Option GM) (hk41 : ∀ (σ : GM) (v4 : Int32) (H : Heap) (locs : List Loc) (ls : Array Slot), gI X σ s H locs → lv_has ls 5 [(0, .ref (X.2.1 + 60)), (1, .int v1), (2, .int v2), (3, .int v3), (4, .int v4)] → k41 σ v4 = some σr → W p l e ({ frames := 17, cells := 0, slots := 0, locals := 450 } : Room) s m args below meth c H locs 0 0 (MQ below (gQv X σr) args s 0 0 (gA X)) (F0 m 41 ls [])) :
    ∀ (σ : GM) (v4 : Int32) (H : Heap) (locs : List Loc) (ls : Array Slot), gI X σ s H locs → lv_has ls 5 [(0, .ref (X.2.1 + 60)), (1, .int v1), (2, .int v2), (3, .int v3), (4, .int v4)] → f_X12_laysApart_L94 k6 k41 v1 v2 v3 σ v4 = some σr →
    W p l e ({ frames := 17, cells := 0, slots := 0, locals := 450 } : Room) s m args below meth c H locs 0 0 (MQ below (gQv X σr) args s 0 0 (gA X)) (F0 m 94 ls []) := by
  intro σ v4 H locs ls hI hl h
  unfold f_X12_laysApart_L94 at h
  refine lv_iload Γ.1.1 Γ.1.2.1 dX12_laysApart_94 (lv_at hl 4 rfl) ?_
  refine lv_if_ne (tgt := 102) Γ.1.1 Γ.1.2.1 dX12_laysApart_96 (by decide) (fun c_14 => ?_) (fun c_14 => ?_)
  · replace h := ite_neg c_14 h; clear c_14
    refine lv_iload Γ.1.1 Γ.1.2.1 dX12_laysApart_102 (lv_at hl 4 rfl) ?_
    refine lv_iconst (v := (1 : Int32)) Γ.1.1 Γ.1.2.1 dX12_laysApart_104 (by decide) ?_
    refine lv_isub Γ.1.1 Γ.1.2.1 dX12_laysApart_105 ?_
    refine lv_iload_n Γ.1.1 Γ.1.2.1 dX12_laysApart_106 rfl (lv_at hl 3 rfl) ?_
    refine lv_iand Γ.1.1 Γ.1.2.1 dX12_laysApart_107 ?_
    refine lv_topi (fun v4_15 e_v4_15 => ?_)
    replace h := nm_at e_v4_15 h; clear e_v4_15
    refine lv_istore (lv' := [(4, .int v4_15), (0, .ref (X.2.1 + 60)), (1, .int v1), (2, .int v2), (3, .int v3)]) Γ.1.1 Γ.1.2.1 dX12_laysApart_108 hl (by decide) rfl (fun ls hl => ?_)
    refine lv_goto (tgt := 41) Γ.1.1 Γ.1.2.1 dX12_laysApart_110 (by decide) ?_
    exact hk41 σ v4_15 _ _ _ hI (lv_sub hl [1, 2, 3, 4, 0] rfl) h
  · replace h := ite_pos c_14 h; clear c_14
    refine lv_goto (tgt := 113) Γ.1.1 Γ.1.2.1 dX12_laysApart_99 (by decide) ?_
    obtain ⟨v1_16, e_v1_16, h⟩ := nm_some h
    refine lv_iinc (v := v1_16) (lv' := [(1, .int v1_16), (0, .ref (X.2.1 + 60)), (2, .int v2), (3, .int v3), (4, .int v4)]) Γ.1.1 Γ.1.2.1 dX12_laysApart_113 hl (k := 1) rfl (by rw [e_v1_16]; rfl) (by decide) rfl (fun ls hl => ?_)
    clear e_v1_16
    refine lv_goto (tgt := 6) Γ.1.1 Γ.1.2.1 dX12_laysApart_116 (by decide) ?_
    exact hk6 σ v1_16 _ _ _ hI (lv_sub hl [1, 0] rfl) h
set_option maxRecDepth 20000 in
set_option maxHeartbeats 4000000 in
theorem s_X12_laysApart_L41 {p : Program} {l : Launch} {e : Env} {s : State} {m : MethodId} {args : Array Value} {below : List Frame} {meth : Method} {c : Code} {X : GX} (σr : GM) (Γ : gC X p m meth c cX12_laysApart 5 s args RX12 none) (v1 : Int32) (v2 : Int32) (v3 : Int32) (k6 : GM → Int32 → Option GM) (hk6 : ∀ (σ : GM) (v1 : Int32) (H : Heap) (locs : List Loc) (ls : Array Slot), gI X σ s H locs → lv_has ls 5 [(0, .ref (X.2.1 + 60)), (1, .int v1)] → k6 σ v1 = some σr → W p l e ({ frames := 17, cells := 0, slots := 0, locals := 450 } : Room) s m args below meth c H locs 0 0 (MQ below (gQv X σr) args s 0 0 (gA X)) (F0 m 6 ls [])) :
    ∀ (k : Nat) (σ : GM) (v4 : Int32) (H : Heap) (locs : List Loc) (ls : Array Slot), gI X σ s H locs → lv_has ls 5 [(0, .ref (X.2.1 + 60)), (1, .int v1), (2, .int v2), (3, .int v3), (4, .int v4)] → f_X12_laysApart_L41 k6 v1 v2 v3 k σ v4 = some σr →
    W p l e ({ frames := 17, cells := 0, slots := 0, locals := 450 } : Room) s m args below meth c H locs 0 0 (MQ below (gQv X σr) args s 0 0 (gA X)) (F0 m 41 ls []) := by
  intro k
  induction k with
  | zero =>
    intro σ v4 H locs ls hI hl h
    exact absurd h (by simp [f_X12_laysApart_L41])
  | succ k ih =>
    intro σ v4 H locs ls hI hl h
    unfold f_X12_laysApart_L41 at h
    refine lv_aload_n Γ.1.1 Γ.1.2.1 dX12_laysApart_41 rfl (lv_at hl 0 rfl) ?_
    refine get_X12_isRing Γ hI gw_265 dX12_laysApart_42 ?_
    refine lv_iload Γ.1.1 Γ.1.2.1 dX12_laysApart_45 (lv_at hl 4 rfl) ?_
    refine lv_iload_n Γ.1.1 Γ.1.2.1 dX12_laysApart_47 rfl (lv_at hl 2 rfl) ?_
    refine lv_ior Γ.1.1 Γ.1.2.1 dX12_laysApart_48 ?_
    refine lv_topi (fun i_11 e_i_11 => ?_)
    replace h := nm_at e_i_11 h; clear e_i_11
    obtain ⟨hb_12, h⟩ := bnd_some h
    refine g_zald Γ hI sh_70 hb_12 dX12_laysApart_49 ?_
    refine lv_if_eq (tgt := 94) Γ.1.1 Γ.1.2.1 dX12_laysApart_50 (by decide) (fun c_13 => ?_) (fun c_13 => ?_)
    · replace h := ite_pos c_13 h; clear c_13
      exact s_X12_laysApart_L94 σr Γ v1 v2 v3 _ hk6 _ ih σ v4 _ _ _ hI hl h
    · replace h := ite_neg c_13 h; clear c_13
      refine lv_aload_n Γ.1.1 Γ.1.2.1 dX12_laysApart_53 rfl (lv_at hl 0 rfl) ?_
      refine get_X12_apart Γ hI gw_268 dX12_laysApart_54 ?_
      refine lv_iload_n Γ.1.1 Γ.1.2.1 dX12_laysApart_57 rfl (lv_at hl 3 rfl) ?_
      refine lv_iload Γ.1.1 Γ.1.2.1 dX12_laysApart_58 (lv_at hl 4 rfl) ?_
      refine lv_iconst (v := (-1 : Int32)) Γ.1.1 Γ.1.2.1 dX12_laysApart_60 (by decide) ?_
      refine lv_ixor Γ.1.1 Γ.1.2.1 dX12_laysApart_61 ?_
      refine lv_iand Γ.1.1 Γ.1.2.1 dX12_laysApart_62 ?_
      refine lv_topi (fun i_17 e_i_17 => ?_)
      replace h := nm_at e_i_17 h; clear e_i_17
      obtain ⟨hb_18, h⟩ := bnd_some h
      refine g_iald Γ hI sh_71 hb_18 dX12_laysApart_63 ?_
      refine lv_iconst (v := (1 : Int32)) Γ.1.1 Γ.1.2.1 dX12_laysApart_64 (by decide) ?_
      refine lv_iadd Γ.1.1 Γ.1.2.1 dX12_laysApart_65 ?_
      refine lv_aload_n Γ.1.1 Γ.1.2.1 dX12_laysApart_66 rfl (lv_at hl 0 rfl) ?_
      refine get_X12_apart Γ hI gw_268 dX12_laysApart_67 ?_
      refine lv_iload_n Γ.1.1 Γ.1.2.1 dX12_laysApart_70 rfl (lv_at hl 1 rfl) ?_
      obtain ⟨hb_19, h⟩ := bnd_some h
      refine g_iald Γ hI sh_71 hb_19 dX12_laysApart_71 ?_
      refine lv_icmp_le (tgt := 94) Γ.1.1 Γ.1.2.1 dX12_laysApart_72 (by decide) (fun c_20 => ?_) (fun c_20 => ?_)
      · replace h := ite_pos c_20 h; clear c_20
        exact s_X12_laysApart_L94 σr Γ v1 v2 v3 _ hk6 _ ih σ v4 _ _ _ hI hl h
      · replace h := ite_neg c_20 h; clear c_20
        refine lv_aload_n Γ.1.1 Γ.1.2.1 dX12_laysApart_75 rfl (lv_at hl 0 rfl) ?_
        refine get_X12_apart Γ hI gw_268 dX12_laysApart_76 ?_
        refine lv_iload_n Γ.1.1 Γ.1.2.1 dX12_laysApart_79 rfl (lv_at hl 1 rfl) ?_
        refine lv_aload_n Γ.1.1 Γ.1.2.1 dX12_laysApart_80 rfl (lv_at hl 0 rfl) ?_
        refine get_X12_apart Γ hI gw_268 dX12_laysApart_81 ?_
        refine lv_iload_n Γ.1.1 Γ.1.2.1 dX12_laysApart_84 rfl (lv_at hl 3 rfl) ?_
        refine lv_iload Γ.1.1 Γ.1.2.1 dX12_laysApart_85 (lv_at hl 4 rfl) ?_
        refine lv_iconst (v := (-1 : Int32)) Γ.1.1 Γ.1.2.1 dX12_laysApart_87 (by decide) ?_
        refine lv_ixor Γ.1.1 Γ.1.2.1 dX12_laysApart_88 ?_
        refine lv_iand Γ.1.1 Γ.1.2.1 dX12_laysApart_89 ?_
        refine lv_topi (fun i_21 e_i_21 => ?_)
        replace h := nm_at e_i_21 h; clear e_i_21
        obtain ⟨hb_22, h⟩ := bnd_some h
        refine g_iald Γ hI sh_71 hb_22 dX12_laysApart_90 ?_
        refine lv_iconst (v := (1 : Int32)) Γ.1.1 Γ.1.2.1 dX12_laysApart_91 (by decide) ?_
        refine lv_iadd Γ.1.1 Γ.1.2.1 dX12_laysApart_92 ?_
        obtain ⟨hb_23, h⟩ := bnd_some h
        refine g_iast Γ hI sh_71 hb_23 dX12_laysApart_93 (fun H locs hI => ?_)
        obtain ⟨σ_24, e_m_24, h⟩ := nm_some h
        rw [← e_m_24] at hI; clear e_m_24
        exact s_X12_laysApart_L94 σr Γ v1 v2 v3 _ hk6 _ ih σ_24 v4 _ _ _ hI hl h
set_option maxRecDepth 20000 in
set_option maxHeartbeats 4000000 in
theorem s_X12_laysApart_L6 {p : Program} {l : Launch} {e : Env} {s : State} {m : MethodId} {args : Array Value} {below : List Frame} {meth : Method} {c : Code} {X : GX} (σr : GM) (Γ : gC X p m meth c cX12_laysApart 5 s args RX12 none) :
    ∀ (k : Nat) (σ : GM) (v1 : Int32) (H : Heap) (locs : List Loc) (ls : Array Slot), gI X σ s H locs → lv_has ls 5 [(0, .ref (X.2.1 + 60)), (1, .int v1)] → f_X12_laysApart_L6 k σ v1 = some σr →
    W p l e ({ frames := 17, cells := 0, slots := 0, locals := 450 } : Room) s m args below meth c H locs 0 0 (MQ below (gQv X σr) args s 0 0 (gA X)) (F0 m 6 ls []) := by
  intro k
  induction k with
  | zero =>
    intro σ v1 H locs ls hI hl h
    exact absurd h (by simp [f_X12_laysApart_L6])
  | succ k ih =>
    intro σ v1 H locs ls hI hl h
    unfold f_X12_laysApart_L6 at h
    refine lv_iload_n Γ.1.1 Γ.1.2.1 dX12_laysApart_6 rfl (lv_at hl 1 rfl) ?_
    refine lv_sipush (v := (4096 : Int32)) Γ.1.1 Γ.1.2.1 dX12_laysApart_7 (by decide) ?_
    refine lv_icmp_ge (tgt := 119) Γ.1.1 Γ.1.2.1 dX12_laysApart_10 (by decide) (fun c_3 => ?_) (fun c_3 => ?_)
    · replace h := ite_pos c_3 h; clear c_3
      exact g_vret Γ hI dX12_laysApart_119 (Option.some.inj h)
    · replace h := ite_neg c_3 h; clear c_3
      refine lv_iconst (v := (1 : Int32)) Γ.1.1 Γ.1.2.1 dX12_laysApart_13 (by decide) ?_
      refine lv_iload_n Γ.1.1 Γ.1.2.1 dX12_laysApart_14 rfl (lv_at hl 1 rfl) ?_
      obtain ⟨r_4, hr_4, h⟩ := ob_some h
      refine g_ci Γ hI (g_runS (As := [.int v1]) Γ hI (S_X12_least l X σ v1 r_4 hr_4) mf_X12_least gw_251 rfl rfl ⟨Nat.le_of_ble_eq_true rfl, Nat.le_of_ble_eq_true rfl⟩ rfl hl.1 rfl (Nat.le_of_ble_eq_true rfl) dX12_laysApart_15 ⟨Nat.zero_le _, Nat.zero_le _⟩) (fun H locs hI => ?_)
      clear hr_4
      refine lv_ishl Γ.1.1 Γ.1.2.1 dX12_laysApart_18 ?_
      refine lv_topi (fun v2_6 e_v2_6 => ?_)
      replace h := nm_at e_v2_6 h; clear e_v2_6
      refine lv_istore_n (lv' := [(2, .int v2_6), (0, .ref (X.2.1 + 60)), (1, .int v1)]) Γ.1.1 Γ.1.2.1 dX12_laysApart_19 rfl hl (by decide) rfl (fun ls hl => ?_)
      refine lv_iload_n Γ.1.1 Γ.1.2.1 dX12_laysApart_20 rfl (lv_at hl 2 rfl) ?_
      refine lv_iload_n Γ.1.1 Γ.1.2.1 dX12_laysApart_21 rfl (lv_at hl 0 rfl) ?_
      refine lv_iconst (v := (-1 : Int32)) Γ.1.1 Γ.1.2.1 dX12_laysApart_22 (by decide) ?_
      refine lv_ixor Γ.1.1 Γ.1.2.1 dX12_laysApart_23 ?_
      refine lv_iand Γ.1.1 Γ.1.2.1 dX12_laysApart_24 ?_
      refine lv_topi (fun v3_7 e_v3_7 => ?_)
      replace h := nm_at e_v3_7 h; clear e_v3_7
      refine lv_istore_n (lv' := [(3, .int v3_7), (2, .int v2_6), (0, .ref (X.2.1 + 60)), (1, .int v1)]) Γ.1.1 Γ.1.2.1 dX12_laysApart_25 rfl hl (by decide) rfl (fun ls hl => ?_)
      refine lv_aload_n Γ.1.1 Γ.1.2.1 dX12_laysApart_26 rfl (lv_at hl 2 rfl) ?_
      refine get_X12_apart Γ hI gw_268 dX12_laysApart_27 ?_
      refine lv_iload_n Γ.1.1 Γ.1.2.1 dX12_laysApart_30 rfl (lv_at hl 3 rfl) ?_
      refine lv_aload_n Γ.1.1 Γ.1.2.1 dX12_laysApart_31 rfl (lv_at hl 2 rfl) ?_
      refine get_X12_apart Γ hI gw_268 dX12_laysApart_32 ?_
      refine lv_iload_n Γ.1.1 Γ.1.2.1 dX12_laysApart_35 rfl (lv_at hl 0 rfl) ?_
      obtain ⟨hb_8, h⟩ := bnd_some h
      refine g_iald Γ hI sh_71 hb_8 dX12_laysApart_36 ?_
      obtain ⟨hb_9, h⟩ := bnd_some h
      refine g_iast Γ hI sh_71 hb_9 dX12_laysApart_37 (fun H locs hI => ?_)
      obtain ⟨σ_10, e_m_10, h⟩ := nm_some h
      rw [← e_m_10] at hI; clear e_m_10
      refine lv_iload_n Γ.1.1 Γ.1.2.1 dX12_laysApart_38 rfl (lv_at hl 0 rfl) ?_
      refine lv_istore (lv' := [(4, .int v3_7), (3, .int v3_7), (2, .int v2_6), (0, .ref (X.2.1 + 60)), (1, .int v1)]) Γ.1.1 Γ.1.2.1 dX12_laysApart_39 hl (by decide) rfl (fun ls hl => ?_)
      exact s_X12_laysApart_L41 σr Γ v1 v2_6 v3_7 _ ih _ σ_10 v3_7 _ _ _ hI (lv_sub hl [3, 4, 2, 1, 0] rfl) h
set_option maxRecDepth 20000 in
set_option maxHeartbeats 4000000 in
theorem S_X12_laysApart (l : Launch) (X : GX) (σ : GM) (σr : GM) (h : f_X12_laysApart σ = some σr) : gMet l yX12_laysApart cX12_laysApart 5 none ({ frames := 17, cells := 0, slots := 0, locals := 450 } : Room) X σ [.ref (X.2.1 + 60)] (gQv X σr) := by
  unfold f_X12_laysApart at h
  refine gMet_of (lv := [(0, .ref (X.2.1 + 60))]) (by decide) rfl (Nat.le_of_ble_eq_true rfl) rfl (fun p e s m below meth c H ls Γ hI hl => ?_)
  refine lv_aload_n Γ.1.1 Γ.1.2.1 dX12_laysApart_0 rfl (lv_at hl 0 rfl) ?_
  obtain ⟨σ_2, hr_1, h⟩ := ob_some h
  refine g_cv Γ hI (g_runV (As := []) Γ hI (S_X12_laysRings l X σ σ_2 hr_1) mf_X12_laysRings (recv_X12 Γ hI) gw_267 rfl rfl ⟨Nat.le_of_ble_eq_true rfl, Nat.le_of_ble_eq_true rfl⟩ rfl hl.1 rfl (Nat.le_of_ble_eq_true rfl) dX12_laysApart_1 ⟨Nat.zero_le _, Nat.zero_le _⟩) (fun H locs hI => ?_)
  clear hr_1
  refine lv_iconst (v := (1 : Int32)) Γ.1.1 Γ.1.2.1 dX12_laysApart_4 (by decide) ?_
  refine lv_istore_n (lv' := [(1, .int (1 : Int32)), (0, .ref (X.2.1 + 60))]) Γ.1.1 Γ.1.2.1 dX12_laysApart_5 rfl hl (by decide) rfl (fun ls hl => ?_)
  exact s_X12_laysApart_L6 σr Γ _ σ_2 (1 : Int32) _ _ _ hI (lv_sub hl [1, 0] rfl) h
set_option maxRecDepth 20000 in
set_option maxHeartbeats 4000000 in
theorem S_X12_packed (l : Launch) (X : GX) (σ : GM) (σr : GM) (x : Int32) (h : f_X12_packed σ = some (σr, x)) : gMet l yX12_packed cX12_packed 1 (some .int) ({ frames := 18, cells := 0, slots := 0, locals := 474 } : Room) X σ [.ref (X.2.1 + 60)] (gQi X σr x) := by
  unfold f_X12_packed at h
  refine gMet_of (lv := [(0, .ref (X.2.1 + 60))]) (by decide) rfl (Nat.le_of_ble_eq_true rfl) rfl (fun p e s m below meth c H ls Γ hI hl => ?_)
  refine lv_aload_n Γ.1.1 Γ.1.2.1 dX12_packed_0 rfl (lv_at hl 0 rfl) ?_
  refine lv_iconst (v := (0 : Int32)) Γ.1.1 Γ.1.2.1 dX12_packed_1 (by decide) ?_
  refine put_X12_thrown Γ hI gw_211 dX12_packed_2 (fun H locs hI => ?_)
  obtain ⟨σ_1, e_m_1, h⟩ := nm_some h
  rw [← e_m_1] at hI; clear e_m_1
  refine lv_aload_n Γ.1.1 Γ.1.2.1 dX12_packed_5 rfl (lv_at hl 0 rfl) ?_
  obtain ⟨σ_3, hr_2, h⟩ := ob_some h
  refine g_cv Γ hI (g_runV (As := []) Γ hI (S_X12_laysApart l X σ_1 σ_3 hr_2) mf_X12_laysApart (recv_X12 Γ hI) gw_269 rfl rfl ⟨Nat.le_of_ble_eq_true rfl, Nat.le_of_ble_eq_true rfl⟩ rfl hl.1 rfl (Nat.le_of_ble_eq_true rfl) dX12_packed_6 ⟨Nat.zero_le _, Nat.zero_le _⟩) (fun H locs hI => ?_)
  clear hr_2
  refine lv_aload_n Γ.1.1 Γ.1.2.1 dX12_packed_9 rfl (lv_at hl 0 rfl) ?_
  refine get_X12_apart Γ hI gw_268 dX12_packed_10 ?_
  refine lv_aload_n Γ.1.1 Γ.1.2.1 dX12_packed_13 rfl (lv_at hl 0 rfl) ?_
  obtain ⟨r_4, hr_4, h⟩ := ob_some h
  refine g_ci Γ hI (g_runV (As := []) Γ hI (S_X12_there l X σ_3 r_4 hr_4) mf_X12_there (recv_X12 Γ hI) gw_250 rfl rfl ⟨Nat.le_of_ble_eq_true rfl, Nat.le_of_ble_eq_true rfl⟩ rfl hl.1 rfl (Nat.le_of_ble_eq_true rfl) dX12_packed_14 ⟨Nat.zero_le _, Nat.zero_le _⟩) (fun H locs hI => ?_)
  clear hr_4
  obtain ⟨hb_6, h⟩ := bnd_some h
  refine g_iald Γ hI sh_71 hb_6 dX12_packed_17 ?_
  exact g_iret Γ hI dX12_packed_18 (Prod.mk.inj (Option.some.inj h)).1 (Prod.mk.inj (Option.some.inj h)).2
set_option maxRecDepth 20000 in
set_option maxHeartbeats 4000000 in
theorem s_X12_pack_L92 {p : Program} {l : Launch} {e : Env} {s : State} {m : MethodId} {args : Array Value} {below : List Frame} {meth : Method} {c : Code} {X : GX} (σr : GM) (x : Int32) (Γ : gC X p m meth c cX12_pack 5 s args RX12 (some .int)) (v1 : Int32) (k40 : GM → Int32 → Int32 → Int32 → Option (GM × Int32)) (hk40 : ∀ (σ : GM) (v2 : Int32) (v3 : Int32) (v4 : Int32) (H : Heap) (locs : List Loc) (ls : Array Slot), gI X σ s H locs → lv_has ls 5 [(0, .ref (X.2.1 + 60)), (1, .int v1), (2, .int v2), (3, .int v3), (4, .int v4)] → k40 σ v2 v3 v4 = some (σr, x) → W p l e ({ frames := 18, cells := 0, slots := 0, locals := 474 } : Room) s m args below meth c H locs 0 0 (MQ below (gQi X σr x) args s 0 0 (gA X)) (F0 m 40 ls [])) :
    ∀ (σ : GM) (v2 : Int32) (v3 : Int32) (v4 : Int32) (H : Heap) (locs : List Loc) (ls : Array Slot), gI X σ s H locs → lv_has ls 5 [(0, .ref (X.2.1 + 60)), (1, .int v1), (2, .int v2), (3, .int v3), (4, .int v4)] → f_X12_pack_L92 k40 v1 σ v2 v3 v4 = some (σr, x) →
    W p l e ({ frames := 18, cells := 0, slots := 0, locals := 474 } : Room) s m args below meth c H locs 0 0 (MQ below (gQi X σr x) args s 0 0 (gA X)) (F0 m 92 ls []) := by
  intro σ v2 v3 v4 H locs ls hI hl h
  unfold f_X12_pack_L92 at h
  refine lv_iload_n Γ.1.1 Γ.1.2.1 dX12_pack_92 rfl (lv_at hl 2 rfl) ?_
  refine lv_iload_n Γ.1.1 Γ.1.2.1 dX12_pack_93 rfl (lv_at hl 3 rfl) ?_
  refine lv_iconst (v := (-1 : Int32)) Γ.1.1 Γ.1.2.1 dX12_pack_94 (by decide) ?_
  refine lv_ixor Γ.1.1 Γ.1.2.1 dX12_pack_95 ?_
  refine lv_iand Γ.1.1 Γ.1.2.1 dX12_pack_96 ?_
  refine lv_topi (fun v2_22 e_v2_22 => ?_)
  replace h := nm_at e_v2_22 h; clear e_v2_22
  refine lv_istore_n (lv' := [(2, .int v2_22), (0, .ref (X.2.1 + 60)), (1, .int v1), (3, .int v3), (4, .int v4)]) Γ.1.1 Γ.1.2.1 dX12_pack_97 rfl hl (by decide) rfl (fun ls hl => ?_)
  obtain ⟨v4_23, e_v4_23, h⟩ := nm_some h
  refine lv_iinc (v := v4_23) (lv' := [(4, .int v4_23), (2, .int v2_22), (0, .ref (X.2.1 + 60)), (1, .int v1), (3, .int v3)]) Γ.1.1 Γ.1.2.1 dX12_pack_98 hl (k := 4) rfl (by rw [e_v4_23]; rfl) (by decide) rfl (fun ls hl => ?_)
  clear e_v4_23
  refine lv_goto (tgt := 40) Γ.1.1 Γ.1.2.1 dX12_pack_101 (by decide) ?_
  exact hk40 σ v2_22 v3 v4_23 _ _ _ hI (lv_sub hl [2, 3, 1, 4, 0] rfl) h
set_option maxRecDepth 20000 in
set_option maxHeartbeats 4000000 in
theorem s_X12_pack_L48 {p : Program} {l : Launch} {e : Env} {s : State} {m : MethodId} {args : Array Value} {below : List Frame} {meth : Method} {c : Code} {X : GX} (σr : GM) (x : Int32) (Γ : gC X p m meth c cX12_pack 5 s args RX12 (some .int)) (v1 : Int32) (v2 : Int32) (v4 : Int32) (k40 : GM → Int32 → Int32 → Int32 → Option (GM × Int32)) (hk40 : ∀ (σ : GM) (v2 : Int32) (v3 : Int32) (v4 : Int32) (H : Heap) (locs : List Loc) (ls : Array Slot), gI X σ s H locs → lv_has ls 5 [(0, .ref (X.2.1 + 60)), (1, .int v1), (2, .int v2), (3, .int v3), (4, .int v4)] → k40 σ v2 v3 v4 = some (σr, x) → W p l e ({ frames := 18, cells := 0, slots := 0, locals := 474 } : Room) s m args below meth c H locs 0 0 (MQ below (gQi X σr x) args s 0 0 (gA X)) (F0 m 40 ls [])) :
    ∀ (k : Nat) (σ : GM) (v3 : Int32) (H : Heap) (locs : List Loc) (ls : Array Slot), gI X σ s H locs → lv_has ls 5 [(0, .ref (X.2.1 + 60)), (1, .int v1), (2, .int v2), (3, .int v3), (4, .int v4)] → f_X12_pack_L48 k40 v1 v2 v4 k σ v3 = some (σr, x) →
    W p l e ({ frames := 18, cells := 0, slots := 0, locals := 474 } : Room) s m args below meth c H locs 0 0 (MQ below (gQi X σr x) args s 0 0 (gA X)) (F0 m 48 ls []) := by
  intro k
  induction k with
  | zero =>
    intro σ v3 H locs ls hI hl h
    exact absurd h (by simp [f_X12_pack_L48])
  | succ k ih =>
    intro σ v3 H locs ls hI hl h
    unfold f_X12_pack_L48 at h
    refine lv_aload_n Γ.1.1 Γ.1.2.1 dX12_pack_48 rfl (lv_at hl 0 rfl) ?_
    refine get_X12_isRing Γ hI gw_265 dX12_pack_49 ?_
    refine lv_iload_n Γ.1.1 Γ.1.2.1 dX12_pack_52 rfl (lv_at hl 3 rfl) ?_
    obtain ⟨hb_13, h⟩ := bnd_some h
    refine g_zald Γ hI sh_70 hb_13 dX12_pack_53 ?_
    refine lv_if_eq (tgt := 86) Γ.1.1 Γ.1.2.1 dX12_pack_54 (by decide) (fun c_14 => ?_) (fun c_14 => ?_)
    · replace h := ite_pos c_14 h; clear c_14
      obtain ⟨v3_15, e_v3_15, h⟩ := nm_some h
      refine lv_iinc (v := v3_15) (lv' := [(3, .int v3_15), (0, .ref (X.2.1 + 60)), (1, .int v1), (2, .int v2), (4, .int v4)]) Γ.1.1 Γ.1.2.1 dX12_pack_86 hl (k := 3) rfl (by rw [e_v3_15]; rfl) (by decide) rfl (fun ls hl => ?_)
      clear e_v3_15
      refine lv_goto (tgt := 48) Γ.1.1 Γ.1.2.1 dX12_pack_89 (by decide) ?_
      exact ih σ v3_15 _ _ _ hI (lv_sub hl [1, 2, 3, 0, 4] rfl) h
    · replace h := ite_neg c_14 h; clear c_14
      refine lv_iload_n Γ.1.1 Γ.1.2.1 dX12_pack_57 rfl (lv_at hl 3 rfl) ?_
      refine lv_iload_n Γ.1.1 Γ.1.2.1 dX12_pack_58 rfl (lv_at hl 2 rfl) ?_
      refine lv_iconst (v := (-1 : Int32)) Γ.1.1 Γ.1.2.1 dX12_pack_59 (by decide) ?_
      refine lv_ixor Γ.1.1 Γ.1.2.1 dX12_pack_60 ?_
      refine lv_iand Γ.1.1 Γ.1.2.1 dX12_pack_61 ?_
      refine lv_if_ne (tgt := 86) Γ.1.1 Γ.1.2.1 dX12_pack_62 (by decide) (fun c_16 => ?_) (fun c_16 => ?_)
      · replace h := ite_neg c_16 h; clear c_16
        obtain ⟨v3_17, e_v3_17, h⟩ := nm_some h
        refine lv_iinc (v := v3_17) (lv' := [(3, .int v3_17), (0, .ref (X.2.1 + 60)), (1, .int v1), (2, .int v2), (4, .int v4)]) Γ.1.1 Γ.1.2.1 dX12_pack_86 hl (k := 3) rfl (by rw [e_v3_17]; rfl) (by decide) rfl (fun ls hl => ?_)
        clear e_v3_17
        refine lv_goto (tgt := 48) Γ.1.1 Γ.1.2.1 dX12_pack_89 (by decide) ?_
        exact ih σ v3_17 _ _ _ hI (lv_sub hl [1, 2, 3, 0, 4] rfl) h
      · replace h := ite_pos c_16 h; clear c_16
        refine lv_aload_n Γ.1.1 Γ.1.2.1 dX12_pack_65 rfl (lv_at hl 0 rfl) ?_
        refine get_X12_apart Γ hI gw_268 dX12_pack_66 ?_
        refine lv_iload_n Γ.1.1 Γ.1.2.1 dX12_pack_69 rfl (lv_at hl 2 rfl) ?_
        refine lv_iload_n Γ.1.1 Γ.1.2.1 dX12_pack_70 rfl (lv_at hl 3 rfl) ?_
        refine lv_iconst (v := (-1 : Int32)) Γ.1.1 Γ.1.2.1 dX12_pack_71 (by decide) ?_
        refine lv_ixor Γ.1.1 Γ.1.2.1 dX12_pack_72 ?_
        refine lv_iand Γ.1.1 Γ.1.2.1 dX12_pack_73 ?_
        refine lv_topi (fun i_18 e_i_18 => ?_)
        replace h := nm_at e_i_18 h; clear e_i_18
        obtain ⟨hb_19, h⟩ := bnd_some h
        refine g_iald Γ hI sh_71 hb_19 dX12_pack_74 ?_
        refine lv_aload_n Γ.1.1 Γ.1.2.1 dX12_pack_75 rfl (lv_at hl 0 rfl) ?_
        refine get_X12_apart Γ hI gw_268 dX12_pack_76 ?_
        refine lv_iload_n Γ.1.1 Γ.1.2.1 dX12_pack_79 rfl (lv_at hl 2 rfl) ?_
        obtain ⟨hb_20, h⟩ := bnd_some h
        refine g_iald Γ hI sh_71 hb_20 dX12_pack_80 ?_
        refine lv_iconst (v := (1 : Int32)) Γ.1.1 Γ.1.2.1 dX12_pack_81 (by decide) ?_
        refine lv_isub Γ.1.1 Γ.1.2.1 dX12_pack_82 ?_
        refine lv_icmp_eq (tgt := 92) Γ.1.1 Γ.1.2.1 dX12_pack_83 (by decide) (fun c_21 => ?_) (fun c_21 => ?_)
        · replace h := ite_pos c_21 h; clear c_21
          exact s_X12_pack_L92 σr x Γ v1 _ hk40 σ v2 v3 v4 _ _ _ hI hl h
        · replace h := ite_neg c_21 h; clear c_21
          obtain ⟨v3_24, e_v3_24, h⟩ := nm_some h
          refine lv_iinc (v := v3_24) (lv' := [(3, .int v3_24), (0, .ref (X.2.1 + 60)), (1, .int v1), (2, .int v2), (4, .int v4)]) Γ.1.1 Γ.1.2.1 dX12_pack_86 hl (k := 3) rfl (by rw [e_v3_24]; rfl) (by decide) rfl (fun ls hl => ?_)
          clear e_v3_24
          refine lv_goto (tgt := 48) Γ.1.1 Γ.1.2.1 dX12_pack_89 (by decide) ?_
          exact ih σ v3_24 _ _ _ hI (lv_sub hl [1, 2, 3, 0, 4] rfl) h
set_option maxRecDepth 20000 in
set_option maxHeartbeats 4000000 in
theorem s_X12_pack_L40 {p : Program} {l : Launch} {e : Env} {s : State} {m : MethodId} {args : Array Value} {below : List Frame} {meth : Method} {c : Code} {X : GX} (σr : GM) (x : Int32) (Γ : gC X p m meth c cX12_pack 5 s args RX12 (some .int)) (v1 : Int32) :
    ∀ (k : Nat) (σ : GM) (v2 : Int32) (v3 : Int32) (v4 : Int32) (H : Heap) (locs : List Loc) (ls : Array Slot), gI X σ s H locs → lv_has ls 5 [(0, .ref (X.2.1 + 60)), (1, .int v1), (2, .int v2), (3, .int v3), (4, .int v4)] → f_X12_pack_L40 v1 k σ v2 v3 v4 = some (σr, x) →
    W p l e ({ frames := 18, cells := 0, slots := 0, locals := 474 } : Room) s m args below meth c H locs 0 0 (MQ below (gQi X σr x) args s 0 0 (gA X)) (F0 m 40 ls []) := by
  intro k
  induction k with
  | zero =>
    intro σ v2 v3 v4 H locs ls hI hl h
    exact absurd h (by simp [f_X12_pack_L40])
  | succ k ih =>
    intro σ v2 v3 v4 H locs ls hI hl h
    unfold f_X12_pack_L40 at h
    refine lv_iload Γ.1.1 Γ.1.2.1 dX12_pack_40 (lv_at hl 4 rfl) ?_
    refine lv_iload_n Γ.1.1 Γ.1.2.1 dX12_pack_42 rfl (lv_at hl 1 rfl) ?_
    refine lv_icmp_gt (tgt := 104) Γ.1.1 Γ.1.2.1 dX12_pack_43 (by decide) (fun c_12 => ?_) (fun c_12 => ?_)
    · replace h := ite_pos c_12 h; clear c_12
      refine lv_iload_n Γ.1.1 Γ.1.2.1 dX12_pack_104 rfl (lv_at hl 3 rfl) ?_
      exact g_iret Γ hI dX12_pack_105 (Prod.mk.inj (Option.some.inj h)).1 (Prod.mk.inj (Option.some.inj h)).2
    · replace h := ite_neg c_12 h; clear c_12
      refine lv_iconst (v := (1 : Int32)) Γ.1.1 Γ.1.2.1 dX12_pack_46 (by decide) ?_
      refine lv_istore_n (lv' := [(3, .int (1 : Int32)), (0, .ref (X.2.1 + 60)), (1, .int v1), (2, .int v2), (4, .int v4)]) Γ.1.1 Γ.1.2.1 dX12_pack_47 rfl hl (by decide) rfl (fun ls hl => ?_)
      exact s_X12_pack_L48 σr x Γ v1 v2 v4 _ ih _ σ (1 : Int32) _ _ _ hI (lv_sub hl [1, 2, 3, 0, 4] rfl) h
set_option maxRecDepth 20000 in
set_option maxHeartbeats 4000000 in
theorem S_X12_pack (l : Launch) (X : GX) (σ : GM) (v1 : Int32) (σr : GM) (x : Int32) (h : f_X12_pack σ v1 = some (σr, x)) : gMet l yX12_pack cX12_pack 5 (some .int) ({ frames := 18, cells := 0, slots := 0, locals := 474 } : Room) X σ [.ref (X.2.1 + 60), .int v1] (gQi X σr x) := by
  unfold f_X12_pack at h
  refine gMet_of (lv := [(0, .ref (X.2.1 + 60)), (1, .int v1)]) (by decide) rfl (Nat.le_of_ble_eq_true rfl) rfl (fun p e s m below meth c H ls Γ hI hl => ?_)
  refine lv_aload_n Γ.1.1 Γ.1.2.1 dX12_pack_0 rfl (lv_at hl 0 rfl) ?_
  refine lv_iconst (v := (0 : Int32)) Γ.1.1 Γ.1.2.1 dX12_pack_1 (by decide) ?_
  refine put_X12_thrown Γ hI gw_211 dX12_pack_2 (fun H locs hI => ?_)
  obtain ⟨σ_1, e_m_1, h⟩ := nm_some h
  rw [← e_m_1] at hI; clear e_m_1
  refine lv_aload_n Γ.1.1 Γ.1.2.1 dX12_pack_5 rfl (lv_at hl 0 rfl) ?_
  obtain ⟨σ_3, hr_2, h⟩ := ob_some h
  refine g_cv Γ hI (g_runV (As := []) Γ hI (S_X12_laysApart l X σ_1 σ_3 hr_2) mf_X12_laysApart (recv_X12 Γ hI) gw_269 rfl rfl ⟨Nat.le_of_ble_eq_true rfl, Nat.le_of_ble_eq_true rfl⟩ rfl hl.1 rfl (Nat.le_of_ble_eq_true rfl) dX12_pack_6 ⟨Nat.zero_le _, Nat.zero_le _⟩) (fun H locs hI => ?_)
  clear hr_2
  refine lv_iload_n Γ.1.1 Γ.1.2.1 dX12_pack_9 rfl (lv_at hl 1 rfl) ?_
  refine lv_iconst (v := (0 : Int32)) Γ.1.1 Γ.1.2.1 dX12_pack_10 (by decide) ?_
  refine lv_aload_n Γ.1.1 Γ.1.2.1 dX12_pack_11 rfl (lv_at hl 0 rfl) ?_
  refine get_X12_apart Γ hI gw_268 dX12_pack_12 ?_
  refine lv_aload_n Γ.1.1 Γ.1.2.1 dX12_pack_15 rfl (lv_at hl 0 rfl) ?_
  obtain ⟨r_4, hr_4, h⟩ := ob_some h
  refine g_ci Γ hI (g_runV (As := []) Γ hI (S_X12_there l X σ_3 r_4 hr_4) mf_X12_there (recv_X12 Γ hI) gw_250 rfl rfl ⟨Nat.le_of_ble_eq_true rfl, Nat.le_of_ble_eq_true rfl⟩ rfl hl.1 rfl (Nat.le_of_ble_eq_true rfl) dX12_pack_16 ⟨Nat.zero_le _, Nat.zero_le _⟩) (fun H locs hI => ?_)
  clear hr_4
  obtain ⟨hb_6, h⟩ := bnd_some h
  refine g_iald Γ hI sh_71 hb_6 dX12_pack_19 ?_
  refine lv_iconst (v := (1 : Int32)) Γ.1.1 Γ.1.2.1 dX12_pack_20 (by decide) ?_
  refine lv_isub Γ.1.1 Γ.1.2.1 dX12_pack_21 ?_
  obtain ⟨r_7, hr_7, h⟩ := ob_some h
  refine g_ci Γ hI (g_runS (As := [.int v1, .int (0 : Int32), .int ((σ_3.1 71 r_4.toNatClampNeg) - (1 : Int32))]) Γ hI (S_X12_isIn l X σ_3 v1 (0 : Int32) ((σ_3.1 71 r_4.toNatClampNeg) - (1 : Int32)) r_7 hr_7) mf_X12_isIn gw_239 rfl rfl ⟨Nat.le_of_ble_eq_true rfl, Nat.le_of_ble_eq_true rfl⟩ rfl hl.1 rfl (Nat.le_of_ble_eq_true rfl) dX12_pack_22 ⟨Nat.zero_le _, Nat.zero_le _⟩) (fun H locs hI => ?_)
  clear hr_7
  refine lv_if_ne (tgt := 30) Γ.1.1 Γ.1.2.1 dX12_pack_25 (by decide) (fun c_9 => ?_) (fun c_9 => ?_)
  · replace h := ite_neg c_9 h; clear c_9
    refine lv_aload_n Γ.1.1 Γ.1.2.1 dX12_pack_30 rfl (lv_at hl 0 rfl) ?_
    obtain ⟨r_10, hr_10, h⟩ := ob_some h
    refine g_ci Γ hI (g_runV (As := []) Γ hI (S_X12_there l X σ_3 r_10 hr_10) mf_X12_there (recv_X12 Γ hI) gw_250 rfl rfl ⟨Nat.le_of_ble_eq_true rfl, Nat.le_of_ble_eq_true rfl⟩ rfl hl.1 rfl (Nat.le_of_ble_eq_true rfl) dX12_pack_31 ⟨Nat.zero_le _, Nat.zero_le _⟩) (fun H locs hI => ?_)
    clear hr_10
    refine lv_istore_n (lv' := [(2, .int r_10), (0, .ref (X.2.1 + 60)), (1, .int v1)]) Γ.1.1 Γ.1.2.1 dX12_pack_34 rfl hl (by decide) rfl (fun ls hl => ?_)
    refine lv_iconst (v := (0 : Int32)) Γ.1.1 Γ.1.2.1 dX12_pack_35 (by decide) ?_
    refine lv_istore_n (lv' := [(3, .int (0 : Int32)), (2, .int r_10), (0, .ref (X.2.1 + 60)), (1, .int v1)]) Γ.1.1 Γ.1.2.1 dX12_pack_36 rfl hl (by decide) rfl (fun ls hl => ?_)
    refine lv_iconst (v := (0 : Int32)) Γ.1.1 Γ.1.2.1 dX12_pack_37 (by decide) ?_
    refine lv_istore (lv' := [(4, .int (0 : Int32)), (3, .int (0 : Int32)), (2, .int r_10), (0, .ref (X.2.1 + 60)), (1, .int v1)]) Γ.1.1 Γ.1.2.1 dX12_pack_38 hl (by decide) rfl (fun ls hl => ?_)
    exact s_X12_pack_L40 σr x Γ v1 _ σ_3 r_10 (0 : Int32) (0 : Int32) _ _ _ hI (lv_sub hl [3, 4, 2, 1, 0] rfl) h
  · replace h := ite_pos c_9 h; clear c_9
    refine lv_iconst (v := (-1 : Int32)) Γ.1.1 Γ.1.2.1 dX12_pack_28 (by decide) ?_
    exact g_iret Γ hI dX12_pack_29 (Prod.mk.inj (Option.some.inj h)).1 (Prod.mk.inj (Option.some.inj h)).2
set_option maxRecDepth 20000 in
set_option maxHeartbeats 4000000 in
theorem S_X12_divisor (l : Launch) (X : GX) : ∀ (d : Nat) (σ : GM) (v0 : Int64) (v2 : Int64) (x : Int64) , f_X12_divisor d σ v0 v2 = some x → gMet l yX12_divisor cX12_divisor 4 (some .long) ({ frames := d + 0, cells := 0, slots := 0, locals := d * 23 + 0 } : Room) X σ [.long v0, .long v2] (gQl X σ x) := by
  intro d
  induction d with
  | zero =>
    intro σ v0 v2 x h
    exact absurd h (by simp [f_X12_divisor])
  | succ d ihd =>
    intro σ v0 v2 x h
    unfold f_X12_divisor at h
    refine gMet_of (lv := [(0, .long v0), (2, .long v2)]) (by decide) rfl (Nat.le_of_ble_eq_true rfl) rfl (fun p e s m below meth c H ls Γ hI hl => ?_)
    refine lv_lload_n Γ.1.1 Γ.1.2.1 dX12_divisor_0 rfl (lv_at hl 1 rfl) ?_
    refine lv_lconst (v := (0 : Int64)) Γ.1.1 Γ.1.2.1 dX12_divisor_1 (by decide) ?_
    refine W.lcmp Γ.1.1 Γ.1.2.1 dX12_divisor_2 ?_
    refine lv_if_ne (tgt := 21) Γ.1.1 Γ.1.2.1 dX12_divisor_3 (by decide) (fun c_1 => ?_) (fun c_1 => ?_)
    · replace h := ite_neg c_1 h; clear c_1
      refine lv_lload_n Γ.1.1 Γ.1.2.1 dX12_divisor_21 rfl (lv_at hl 1 rfl) ?_
      refine lv_lload_n Γ.1.1 Γ.1.2.1 dX12_divisor_22 rfl (lv_at hl 0 rfl) ?_
      refine lv_lload_n Γ.1.1 Γ.1.2.1 dX12_divisor_23 rfl (lv_at hl 1 rfl) ?_
      obtain ⟨hz_2, h⟩ := nzl_some h
      refine lv_lrem Γ.1.1 Γ.1.2.1 dX12_divisor_24 hz_2 ?_
      obtain ⟨r_3, hr_3, h⟩ := ob_some h
      refine g_cl Γ hI (g_runS (As := [.long v2, .long (v0 - v0 / v2 * v2)]) Γ hI (ihd σ v2 (v0 - v0 / v2 * v2) r_3 hr_3) mf_X12_divisor gw_270 rfl rfl ⟨by show d + 0 + 1 ≤ d + 1 + 0; omega, by show 8 + (4 + 11) + (d * 23 + 0) ≤ (d + 1) * 23 + 0; omega⟩ rfl hl.1 rfl (Nat.le_of_ble_eq_true rfl) dX12_divisor_25 ⟨Nat.zero_le _, Nat.zero_le _⟩) (fun H locs hI => ?_)
      clear hr_3
      exact g_lret Γ hI dX12_divisor_28 rfl (Option.some.inj h)
    · replace h := ite_pos c_1 h; clear c_1
      refine lv_lload_n Γ.1.1 Γ.1.2.1 dX12_divisor_6 rfl (lv_at hl 0 rfl) ?_
      refine lv_lconst (v := (0 : Int64)) Γ.1.1 Γ.1.2.1 dX12_divisor_7 (by decide) ?_
      refine W.lcmp Γ.1.1 Γ.1.2.1 dX12_divisor_8 ?_
      refine lv_if_ge (tgt := 17) Γ.1.1 Γ.1.2.1 dX12_divisor_9 (by decide) (fun c_5 => ?_) (fun c_5 => ?_)
      · replace h := ite_pos c_5 h; clear c_5
        refine lv_lload_n Γ.1.1 Γ.1.2.1 dX12_divisor_17 rfl (lv_at hl 0 rfl) ?_
        refine lv_goto (tgt := 28) Γ.1.1 Γ.1.2.1 dX12_divisor_18 (by decide) ?_
        exact g_lret Γ hI dX12_divisor_28 rfl (Option.some.inj h)
      · replace h := ite_neg c_5 h; clear c_5
        refine lv_lload_n Γ.1.1 Γ.1.2.1 dX12_divisor_12 rfl (lv_at hl 0 rfl) ?_
        refine lv_lneg Γ.1.1 Γ.1.2.1 dX12_divisor_13 ?_
        refine lv_goto (tgt := 28) Γ.1.1 Γ.1.2.1 dX12_divisor_14 (by decide) ?_
        exact g_lret Γ hI dX12_divisor_28 rfl (Option.some.inj h)
set_option maxRecDepth 20000 in
set_option maxHeartbeats 4000000 in
theorem S_X12_takes (l : Launch) (X : GX) (σ : GM) (v1 : Int32) (v2 : Int64) (v4 : Int64) (v6 : Int32) (σr : GM) (h : f_X12_takes σ v1 v2 v4 v6 = some σr) : gMet l yX12_takes cX12_takes 13 none ({ frames := 201, cells := 0, slots := 0, locals := 4623 } : Room) X σ [.ref (X.2.1 + 60), .int v1, .long v2, .long v4, .int v6] (gQv X σr) := by
  unfold f_X12_takes at h
  refine gMet_of (lv := [(0, .ref (X.2.1 + 60)), (1, .int v1), (2, .long v2), (4, .long v4), (6, .int v6)]) (by decide) rfl (Nat.le_of_ble_eq_true rfl) rfl (fun p e s m below meth c H ls Γ hI hl => ?_)
  refine lv_aload_n Γ.1.1 Γ.1.2.1 dX12_takes_0 rfl (lv_at hl 0 rfl) ?_
  refine get_X12_above Γ hI gw_271 dX12_takes_1 ?_
  refine lv_iload_n Γ.1.1 Γ.1.2.1 dX12_takes_4 rfl (lv_at hl 1 rfl) ?_
  obtain ⟨hb_1, h⟩ := bnd_some h
  refine g_lald Γ hI sh_72 hb_1 dX12_takes_5 ?_
  refine lv_lload Γ.1.1 Γ.1.2.1 dX12_takes_6 (lv_at hl 3 rfl) ?_
  refine lv_lmul Γ.1.1 Γ.1.2.1 dX12_takes_8 ?_
  refine lv_lload_n Γ.1.1 Γ.1.2.1 dX12_takes_9 rfl (lv_at hl 2 rfl) ?_
  refine lv_iload Γ.1.1 Γ.1.2.1 dX12_takes_10 (lv_at hl 4 rfl) ?_
  refine lv_i2l (v := (v6.toInt64)) Γ.1.1 Γ.1.2.1 dX12_takes_12 rfl ?_
  refine lv_lmul Γ.1.1 Γ.1.2.1 dX12_takes_13 ?_
  refine lv_aload_n Γ.1.1 Γ.1.2.1 dX12_takes_14 rfl (lv_at hl 0 rfl) ?_
  refine get_X12_below Γ hI gw_272 dX12_takes_15 ?_
  refine lv_iload_n Γ.1.1 Γ.1.2.1 dX12_takes_18 rfl (lv_at hl 1 rfl) ?_
  obtain ⟨hb_2, h⟩ := bnd_some h
  refine g_lald Γ hI sh_73 hb_2 dX12_takes_19 ?_
  refine lv_lmul Γ.1.1 Γ.1.2.1 dX12_takes_20 ?_
  refine lv_lsub Γ.1.1 Γ.1.2.1 dX12_takes_21 ?_
  refine lv_topl (fun v7_3 e_v7_3 => ?_)
  replace h := nm_at e_v7_3 h; clear e_v7_3
  refine lv_lstore (lv' := [(7, .long v7_3), (0, .ref (X.2.1 + 60)), (1, .int v1), (2, .long v2), (4, .long v4), (6, .int v6)]) Γ.1.1 Γ.1.2.1 dX12_takes_22 hl (by decide) rfl (fun ls hl => ?_)
  refine lv_aload_n Γ.1.1 Γ.1.2.1 dX12_takes_24 rfl (lv_at hl 1 rfl) ?_
  refine get_X12_below Γ hI gw_272 dX12_takes_25 ?_
  refine lv_iload_n Γ.1.1 Γ.1.2.1 dX12_takes_28 rfl (lv_at hl 2 rfl) ?_
  obtain ⟨hb_4, h⟩ := bnd_some h
  refine g_lald Γ hI sh_73 hb_4 dX12_takes_29 ?_
  refine lv_lload Γ.1.1 Γ.1.2.1 dX12_takes_30 (lv_at hl 4 rfl) ?_
  refine lv_lmul Γ.1.1 Γ.1.2.1 dX12_takes_32 ?_
  refine lv_topl (fun v9_5 e_v9_5 => ?_)
  replace h := nm_at e_v9_5 h; clear e_v9_5
  refine lv_lstore (lv' := [(9, .long v9_5), (7, .long v7_3), (0, .ref (X.2.1 + 60)), (1, .int v1), (2, .long v2), (4, .long v4), (6, .int v6)]) Γ.1.1 Γ.1.2.1 dX12_takes_33 hl (by decide) rfl (fun ls hl => ?_)
  refine lv_lload Γ.1.1 Γ.1.2.1 dX12_takes_35 (lv_at hl 1 rfl) ?_
  refine lv_lload Γ.1.1 Γ.1.2.1 dX12_takes_37 (lv_at hl 0 rfl) ?_
  obtain ⟨r_6, hr_6, h⟩ := ob_some h
  refine g_cl Γ hI (g_runS (As := [.long v7_3, .long v9_5]) Γ hI (S_X12_divisor l X 200 σ v7_3 v9_5 r_6 hr_6) mf_X12_divisor gw_270 rfl rfl ⟨Nat.le_of_ble_eq_true rfl, Nat.le_of_ble_eq_true rfl⟩ rfl hl.1 rfl (Nat.le_of_ble_eq_true rfl) dX12_takes_39 ⟨Nat.zero_le _, Nat.zero_le _⟩) (fun H locs hI => ?_)
  clear hr_6
  refine lv_lstore (lv' := [(11, .long r_6), (9, .long v9_5), (7, .long v7_3), (0, .ref (X.2.1 + 60)), (1, .int v1), (2, .long v2), (4, .long v4), (6, .int v6)]) Γ.1.1 Γ.1.2.1 dX12_takes_42 hl (by decide) rfl (fun ls hl => ?_)
  refine lv_aload_n Γ.1.1 Γ.1.2.1 dX12_takes_44 rfl (lv_at hl 3 rfl) ?_
  refine get_X12_above Γ hI gw_271 dX12_takes_45 ?_
  refine lv_iload_n Γ.1.1 Γ.1.2.1 dX12_takes_48 rfl (lv_at hl 4 rfl) ?_
  refine lv_lload Γ.1.1 Γ.1.2.1 dX12_takes_49 (lv_at hl 2 rfl) ?_
  refine lv_lload Γ.1.1 Γ.1.2.1 dX12_takes_51 (lv_at hl 0 rfl) ?_
  obtain ⟨hz_8, h⟩ := nzl_some h
  refine lv_ldiv Γ.1.1 Γ.1.2.1 dX12_takes_53 hz_8 ?_
  obtain ⟨hb_9, h⟩ := bnd_some h
  refine g_last Γ hI sh_72 hb_9 dX12_takes_54 (fun H locs hI => ?_)
  obtain ⟨σ_10, e_m_10, h⟩ := nm_some h
  rw [← e_m_10] at hI; clear e_m_10
  refine lv_aload_n Γ.1.1 Γ.1.2.1 dX12_takes_55 rfl (lv_at hl 3 rfl) ?_
  refine get_X12_below Γ hI gw_272 dX12_takes_56 ?_
  refine lv_iload_n Γ.1.1 Γ.1.2.1 dX12_takes_59 rfl (lv_at hl 4 rfl) ?_
  refine lv_lload Γ.1.1 Γ.1.2.1 dX12_takes_60 (lv_at hl 1 rfl) ?_
  refine lv_lload Γ.1.1 Γ.1.2.1 dX12_takes_62 (lv_at hl 0 rfl) ?_
  obtain ⟨hz_11, h⟩ := nzl_some h
  refine lv_ldiv Γ.1.1 Γ.1.2.1 dX12_takes_64 hz_11 ?_
  obtain ⟨hb_12, h⟩ := bnd_some h
  refine g_last Γ hI sh_73 hb_12 dX12_takes_65 (fun H locs hI => ?_)
  obtain ⟨σ_13, e_m_13, h⟩ := nm_some h
  rw [← e_m_13] at hI; clear e_m_13
  exact g_vret Γ hI dX12_takes_66 (Option.some.inj h)
set_option maxRecDepth 20000 in
set_option maxHeartbeats 4000000 in
theorem S_X12_bounds (l : Launch) (X : GX) (σ : GM) (v1 : Int64) (v3 : Int64) (v5 : Int32) (σr : GM) (h : f_X12_bounds σ v1 v3 v5 = some σr) : gMet l yX12_bounds cX12_bounds 12 none ({ frames := 201, cells := 0, slots := 0, locals := 4623 } : Room) X σ [.ref (X.2.1 + 60), .long v1, .long v3, .int v5] (gQv X σr) := by
  unfold f_X12_bounds at h
  refine gMet_of (lv := [(0, .ref (X.2.1 + 60)), (1, .long v1), (3, .long v3), (5, .int v5)]) (by decide) rfl (Nat.le_of_ble_eq_true rfl) rfl (fun p e s m below meth c H ls Γ hI hl => ?_)
  refine lv_aload_n Γ.1.1 Γ.1.2.1 dX12_bounds_0 rfl (lv_at hl 0 rfl) ?_
  refine get_X12_boundAbove Γ hI gw_273 dX12_bounds_1 ?_
  refine lv_lload_n Γ.1.1 Γ.1.2.1 dX12_bounds_4 rfl (lv_at hl 2 rfl) ?_
  refine lv_lmul Γ.1.1 Γ.1.2.1 dX12_bounds_5 ?_
  refine lv_lload_n Γ.1.1 Γ.1.2.1 dX12_bounds_6 rfl (lv_at hl 1 rfl) ?_
  refine lv_iload Γ.1.1 Γ.1.2.1 dX12_bounds_7 (lv_at hl 3 rfl) ?_
  refine lv_i2l (v := (v5.toInt64)) Γ.1.1 Γ.1.2.1 dX12_bounds_9 rfl ?_
  refine lv_lmul Γ.1.1 Γ.1.2.1 dX12_bounds_10 ?_
  refine lv_aload_n Γ.1.1 Γ.1.2.1 dX12_bounds_11 rfl (lv_at hl 0 rfl) ?_
  refine get_X12_boundBelow Γ hI gw_274 dX12_bounds_12 ?_
  refine lv_lmul Γ.1.1 Γ.1.2.1 dX12_bounds_15 ?_
  refine lv_ladd Γ.1.1 Γ.1.2.1 dX12_bounds_16 ?_
  refine lv_topl (fun v6_1 e_v6_1 => ?_)
  replace h := nm_at e_v6_1 h; clear e_v6_1
  refine lv_lstore (lv' := [(6, .long v6_1), (0, .ref (X.2.1 + 60)), (1, .long v1), (3, .long v3), (5, .int v5)]) Γ.1.1 Γ.1.2.1 dX12_bounds_17 hl (by decide) rfl (fun ls hl => ?_)
  refine lv_aload_n Γ.1.1 Γ.1.2.1 dX12_bounds_19 rfl (lv_at hl 1 rfl) ?_
  refine get_X12_boundBelow Γ hI gw_274 dX12_bounds_20 ?_
  refine lv_lload_n Γ.1.1 Γ.1.2.1 dX12_bounds_23 rfl (lv_at hl 3 rfl) ?_
  refine lv_lmul Γ.1.1 Γ.1.2.1 dX12_bounds_24 ?_
  refine lv_topl (fun v8_2 e_v8_2 => ?_)
  replace h := nm_at e_v8_2 h; clear e_v8_2
  refine lv_lstore (lv' := [(8, .long v8_2), (6, .long v6_1), (0, .ref (X.2.1 + 60)), (1, .long v1), (3, .long v3), (5, .int v5)]) Γ.1.1 Γ.1.2.1 dX12_bounds_25 hl (by decide) rfl (fun ls hl => ?_)
  refine lv_lload Γ.1.1 Γ.1.2.1 dX12_bounds_27 (lv_at hl 1 rfl) ?_
  refine lv_lload Γ.1.1 Γ.1.2.1 dX12_bounds_29 (lv_at hl 0 rfl) ?_
  obtain ⟨r_3, hr_3, h⟩ := ob_some h
  refine g_cl Γ hI (g_runS (As := [.long v6_1, .long v8_2]) Γ hI (S_X12_divisor l X 200 σ v6_1 v8_2 r_3 hr_3) mf_X12_divisor gw_270 rfl rfl ⟨Nat.le_of_ble_eq_true rfl, Nat.le_of_ble_eq_true rfl⟩ rfl hl.1 rfl (Nat.le_of_ble_eq_true rfl) dX12_bounds_31 ⟨Nat.zero_le _, Nat.zero_le _⟩) (fun H locs hI => ?_)
  clear hr_3
  refine lv_lstore (lv' := [(10, .long r_3), (8, .long v8_2), (6, .long v6_1), (0, .ref (X.2.1 + 60)), (1, .long v1), (3, .long v3), (5, .int v5)]) Γ.1.1 Γ.1.2.1 dX12_bounds_34 hl (by decide) rfl (fun ls hl => ?_)
  refine lv_aload_n Γ.1.1 Γ.1.2.1 dX12_bounds_36 rfl (lv_at hl 3 rfl) ?_
  refine lv_lload Γ.1.1 Γ.1.2.1 dX12_bounds_37 (lv_at hl 2 rfl) ?_
  refine lv_lload Γ.1.1 Γ.1.2.1 dX12_bounds_39 (lv_at hl 0 rfl) ?_
  obtain ⟨hz_5, h⟩ := nzl_some h
  refine lv_ldiv Γ.1.1 Γ.1.2.1 dX12_bounds_41 hz_5 ?_
  refine put_X12_boundAbove Γ hI gw_273 dX12_bounds_42 (fun H locs hI => ?_)
  obtain ⟨σ_6, e_m_6, h⟩ := nm_some h
  rw [← e_m_6] at hI; clear e_m_6
  refine lv_aload_n Γ.1.1 Γ.1.2.1 dX12_bounds_45 rfl (lv_at hl 3 rfl) ?_
  refine lv_lload Γ.1.1 Γ.1.2.1 dX12_bounds_46 (lv_at hl 1 rfl) ?_
  refine lv_lload Γ.1.1 Γ.1.2.1 dX12_bounds_48 (lv_at hl 0 rfl) ?_
  obtain ⟨hz_7, h⟩ := nzl_some h
  refine lv_ldiv Γ.1.1 Γ.1.2.1 dX12_bounds_50 hz_7 ?_
  refine put_X12_boundBelow Γ hI gw_274 dX12_bounds_51 (fun H locs hI => ?_)
  obtain ⟨σ_8, e_m_8, h⟩ := nm_some h
  rw [← e_m_8] at hI; clear e_m_8
  exact g_vret Γ hI dX12_bounds_54 (Option.some.inj h)
set_option maxRecDepth 20000 in
set_option maxHeartbeats 4000000 in
theorem s_X12_trimmed_L14 {p : Program} {l : Launch} {e : Env} {s : State} {m : MethodId} {args : Array Value} {below : List Frame} {meth : Method} {c : Code} {X : GX} (σ : GM) (x : Int32) (Γ : gC X p m meth c cX12_trimmed 5 s args RX12 (some .int)) (v3 : Int32) (k4 : Int32 → Int32 → Option Int32) (hk4 : ∀ (v2 : Int32) (v3 : Int32) (H : Heap) (locs : List Loc) (ls : Array Slot), gI X σ s H locs → lv_has ls 5 [(0, .ref (X.2.1 + 60)), (2, .int v2), (3, .int v3)] → k4 v2 v3 = some x → W p l e ({ frames := 2, cells := 0, slots := 0, locals := 46 } : Room) s m args below meth c H locs 0 0 (MQ below (gQi X σ x) args s 0 0 (gA X)) (F0 m 4 ls [])) :
    ∀ (k : Nat) (v2 : Int32) (v4 : Int32) (H : Heap) (locs : List Loc) (ls : Array Slot), gI X σ s H locs → lv_has ls 5 [(0, .ref (X.2.1 + 60)), (2, .int v2), (3, .int v3), (4, .int v4)] → f_X12_trimmed_L14 σ k4 v3 k v2 v4 = some x →
    W p l e ({ frames := 2, cells := 0, slots := 0, locals := 46 } : Room) s m args below meth c H locs 0 0 (MQ below (gQi X σ x) args s 0 0 (gA X)) (F0 m 14 ls []) := by
  intro k
  induction k with
  | zero =>
    intro v2 v4 H locs ls hI hl h
    exact absurd h (by simp [f_X12_trimmed_L14])
  | succ k ih =>
    intro v2 v4 H locs ls hI hl h
    unfold f_X12_trimmed_L14 at h
    refine lv_iload Γ.1.1 Γ.1.2.1 dX12_trimmed_14 (lv_at hl 3 rfl) ?_
    refine lv_bipush (v := (12 : Int32)) Γ.1.1 Γ.1.2.1 dX12_trimmed_16 (by decide) ?_
    refine lv_icmp_ge (tgt := 59) Γ.1.1 Γ.1.2.1 dX12_trimmed_18 (by decide) (fun c_2 => ?_) (fun c_2 => ?_)
    · replace h := ite_pos c_2 h; clear c_2
      refine lv_goto (tgt := 4) Γ.1.1 Γ.1.2.1 dX12_trimmed_59 (by decide) ?_
      exact hk4 v2 v3 _ _ _ hI (lv_sub hl [0, 1, 2] rfl) h
    · replace h := ite_neg c_2 h; clear c_2
      refine lv_iload_n Γ.1.1 Γ.1.2.1 dX12_trimmed_21 rfl (lv_at hl 1 rfl) ?_
      refine lv_iload Γ.1.1 Γ.1.2.1 dX12_trimmed_22 (lv_at hl 3 rfl) ?_
      obtain ⟨r_3, hr_3, h⟩ := ob_some h
      refine g_ci Γ hI (g_runS (As := [.int v2, .int v4]) Γ hI (S_X12_has l X σ v2 v4 r_3 hr_3) mf_X12_has gw_212 rfl rfl ⟨Nat.le_of_ble_eq_true rfl, Nat.le_of_ble_eq_true rfl⟩ rfl hl.1 rfl (Nat.le_of_ble_eq_true rfl) dX12_trimmed_24 ⟨Nat.zero_le _, Nat.zero_le _⟩) (fun H locs hI => ?_)
      clear hr_3
      refine lv_if_eq (tgt := 53) Γ.1.1 Γ.1.2.1 dX12_trimmed_27 (by decide) (fun c_5 => ?_) (fun c_5 => ?_)
      · replace h := ite_pos c_5 h; clear c_5
        obtain ⟨v4_6, e_v4_6, h⟩ := nm_some h
        refine lv_iinc (v := v4_6) (lv' := [(4, .int v4_6), (0, .ref (X.2.1 + 60)), (2, .int v2), (3, .int v3)]) Γ.1.1 Γ.1.2.1 dX12_trimmed_53 hl (k := 3) rfl (by rw [e_v4_6]; rfl) (by decide) rfl (fun ls hl => ?_)
        clear e_v4_6
        refine lv_goto (tgt := 14) Γ.1.1 Γ.1.2.1 dX12_trimmed_56 (by decide) ?_
        exact ih v2 v4_6 _ _ _ hI (lv_sub hl [1, 2, 3, 0] rfl) h
      · replace h := ite_neg c_5 h; clear c_5
        refine lv_aload_n Γ.1.1 Γ.1.2.1 dX12_trimmed_30 rfl (lv_at hl 0 rfl) ?_
        refine get_X12_now Γ hI gw_244 dX12_trimmed_31 ?_
        refine lv_iload Γ.1.1 Γ.1.2.1 dX12_trimmed_34 (lv_at hl 3 rfl) ?_
        refine lv_iload_n Γ.1.1 Γ.1.2.1 dX12_trimmed_36 rfl (lv_at hl 1 rfl) ?_
        obtain ⟨r_7, hr_7, h⟩ := ob_some h
        refine g_ci Γ hI (g_runS (As := [.ref (X.2.1 + 62), .int v4, .int v2]) Γ hI (S_X12_ends l X σ 62 sh_62 v4 v2 r_7 hr_7) mf_X12_ends gw_233 rfl rfl ⟨Nat.le_of_ble_eq_true rfl, Nat.le_of_ble_eq_true rfl⟩ rfl hl.1 rfl (Nat.le_of_ble_eq_true rfl) dX12_trimmed_37 ⟨Nat.zero_le _, Nat.zero_le _⟩) (fun H locs hI => ?_)
        clear hr_7
        refine lv_iconst (v := (2 : Int32)) Γ.1.1 Γ.1.2.1 dX12_trimmed_40 (by decide) ?_
        refine lv_icmp_ge (tgt := 53) Γ.1.1 Γ.1.2.1 dX12_trimmed_41 (by decide) (fun c_9 => ?_) (fun c_9 => ?_)
        · replace h := ite_pos c_9 h; clear c_9
          obtain ⟨v4_10, e_v4_10, h⟩ := nm_some h
          refine lv_iinc (v := v4_10) (lv' := [(4, .int v4_10), (0, .ref (X.2.1 + 60)), (2, .int v2), (3, .int v3)]) Γ.1.1 Γ.1.2.1 dX12_trimmed_53 hl (k := 3) rfl (by rw [e_v4_10]; rfl) (by decide) rfl (fun ls hl => ?_)
          clear e_v4_10
          refine lv_goto (tgt := 14) Γ.1.1 Γ.1.2.1 dX12_trimmed_56 (by decide) ?_
          exact ih v2 v4_10 _ _ _ hI (lv_sub hl [1, 2, 3, 0] rfl) h
        · replace h := ite_neg c_9 h; clear c_9
          refine lv_iload_n Γ.1.1 Γ.1.2.1 dX12_trimmed_44 rfl (lv_at hl 1 rfl) ?_
          refine lv_iconst (v := (1 : Int32)) Γ.1.1 Γ.1.2.1 dX12_trimmed_45 (by decide) ?_
          refine lv_iload Γ.1.1 Γ.1.2.1 dX12_trimmed_46 (lv_at hl 3 rfl) ?_
          refine lv_ishl Γ.1.1 Γ.1.2.1 dX12_trimmed_48 ?_
          refine lv_iconst (v := (-1 : Int32)) Γ.1.1 Γ.1.2.1 dX12_trimmed_49 (by decide) ?_
          refine lv_ixor Γ.1.1 Γ.1.2.1 dX12_trimmed_50 ?_
          refine lv_iand Γ.1.1 Γ.1.2.1 dX12_trimmed_51 ?_
          refine lv_topi (fun v2_11 e_v2_11 => ?_)
          replace h := nm_at e_v2_11 h; clear e_v2_11
          refine lv_istore_n (lv' := [(2, .int v2_11), (0, .ref (X.2.1 + 60)), (3, .int v3), (4, .int v4)]) Γ.1.1 Γ.1.2.1 dX12_trimmed_52 rfl hl (by decide) rfl (fun ls hl => ?_)
          obtain ⟨v4_12, e_v4_12, h⟩ := nm_some h
          refine lv_iinc (v := v4_12) (lv' := [(4, .int v4_12), (2, .int v2_11), (0, .ref (X.2.1 + 60)), (3, .int v3)]) Γ.1.1 Γ.1.2.1 dX12_trimmed_53 hl (k := 3) rfl (by rw [e_v4_12]; rfl) (by decide) rfl (fun ls hl => ?_)
          clear e_v4_12
          refine lv_goto (tgt := 14) Γ.1.1 Γ.1.2.1 dX12_trimmed_56 (by decide) ?_
          exact ih v2_11 v4_12 _ _ _ hI (lv_sub hl [2, 1, 3, 0] rfl) h
set_option maxRecDepth 20000 in
set_option maxHeartbeats 4000000 in
theorem s_X12_trimmed_L4 {p : Program} {l : Launch} {e : Env} {s : State} {m : MethodId} {args : Array Value} {below : List Frame} {meth : Method} {c : Code} {X : GX} (σ : GM) (x : Int32) (Γ : gC X p m meth c cX12_trimmed 5 s args RX12 (some .int)) :
    ∀ (k : Nat) (v2 : Int32) (v3 : Int32) (H : Heap) (locs : List Loc) (ls : Array Slot), gI X σ s H locs → lv_has ls 5 [(0, .ref (X.2.1 + 60)), (2, .int v2), (3, .int v3)] → f_X12_trimmed_L4 σ k v2 v3 = some x →
    W p l e ({ frames := 2, cells := 0, slots := 0, locals := 46 } : Room) s m args below meth c H locs 0 0 (MQ below (gQi X σ x) args s 0 0 (gA X)) (F0 m 4 ls []) := by
  intro k
  induction k with
  | zero =>
    intro v2 v3 H locs ls hI hl h
    exact absurd h (by simp [f_X12_trimmed_L4])
  | succ k ih =>
    intro v2 v3 H locs ls hI hl h
    unfold f_X12_trimmed_L4 at h
    refine lv_iload_n Γ.1.1 Γ.1.2.1 dX12_trimmed_4 rfl (lv_at hl 1 rfl) ?_
    refine lv_iload_n Γ.1.1 Γ.1.2.1 dX12_trimmed_5 rfl (lv_at hl 2 rfl) ?_
    refine lv_icmp_eq (tgt := 62) Γ.1.1 Γ.1.2.1 dX12_trimmed_6 (by decide) (fun c_1 => ?_) (fun c_1 => ?_)
    · replace h := ite_pos c_1 h; clear c_1
      refine lv_iload_n Γ.1.1 Γ.1.2.1 dX12_trimmed_62 rfl (lv_at hl 1 rfl) ?_
      exact g_iret Γ hI dX12_trimmed_63 rfl (Option.some.inj h)
    · replace h := ite_neg c_1 h; clear c_1
      refine lv_iload_n Γ.1.1 Γ.1.2.1 dX12_trimmed_9 rfl (lv_at hl 1 rfl) ?_
      refine lv_istore_n (lv' := [(3, .int v2), (0, .ref (X.2.1 + 60)), (2, .int v2)]) Γ.1.1 Γ.1.2.1 dX12_trimmed_10 rfl hl (by decide) rfl (fun ls hl => ?_)
      refine lv_iconst (v := (0 : Int32)) Γ.1.1 Γ.1.2.1 dX12_trimmed_11 (by decide) ?_
      refine lv_istore (lv' := [(4, .int (0 : Int32)), (3, .int v2), (0, .ref (X.2.1 + 60)), (2, .int v2)]) Γ.1.1 Γ.1.2.1 dX12_trimmed_12 hl (by decide) rfl (fun ls hl => ?_)
      exact s_X12_trimmed_L14 σ x Γ v2 _ ih _ v2 (0 : Int32) _ _ _ hI (lv_sub hl [2, 3, 1, 0] rfl) h
set_option maxRecDepth 20000 in
set_option maxHeartbeats 4000000 in
theorem S_X12_trimmed (l : Launch) (X : GX) (σ : GM) (v1 : Int32) (x : Int32) (h : f_X12_trimmed σ v1 = some x) : gMet l yX12_trimmed cX12_trimmed 5 (some .int) ({ frames := 2, cells := 0, slots := 0, locals := 46 } : Room) X σ [.ref (X.2.1 + 60), .int v1] (gQi X σ x) := by
  unfold f_X12_trimmed at h
  refine gMet_of (lv := [(0, .ref (X.2.1 + 60)), (1, .int v1)]) (by decide) rfl (Nat.le_of_ble_eq_true rfl) rfl (fun p e s m below meth c H ls Γ hI hl => ?_)
  refine lv_iload_n Γ.1.1 Γ.1.2.1 dX12_trimmed_0 rfl (lv_at hl 1 rfl) ?_
  refine lv_istore_n (lv' := [(2, .int v1), (0, .ref (X.2.1 + 60)), (1, .int v1)]) Γ.1.1 Γ.1.2.1 dX12_trimmed_1 rfl hl (by decide) rfl (fun ls hl => ?_)
  refine lv_iconst (v := (-1 : Int32)) Γ.1.1 Γ.1.2.1 dX12_trimmed_2 (by decide) ?_
  refine lv_istore_n (lv' := [(3, .int (-1 : Int32)), (2, .int v1), (0, .ref (X.2.1 + 60)), (1, .int v1)]) Γ.1.1 Γ.1.2.1 dX12_trimmed_3 rfl hl (by decide) rfl (fun ls hl => ?_)
  exact s_X12_trimmed_L4 σ x Γ _ v1 (-1 : Int32) _ _ _ hI (lv_sub hl [2, 1, 0] rfl) h
set_option maxRecDepth 20000 in
set_option maxHeartbeats 4000000 in
theorem s_X12_thinRing_L71 {p : Program} {l : Launch} {e : Env} {s : State} {m : MethodId} {args : Array Value} {below : List Frame} {meth : Method} {c : Code} {X : GX} (σ : GM) (x : Int32) (Γ : gC X p m meth c cX12_thinRing 5 s args RX12 (some .int)) (v1 : Int32) (k2 : Int32 → Option Int32) (hk2 : ∀ (v2 : Int32) (H : Heap) (locs : List Loc) (ls : Array Slot), gI X σ s H locs → lv_has ls 5 [(0, .ref (X.2.1 + 60)), (1, .int v1), (2, .int v2)] → k2 v2 = some x → W p l e ({ frames := 2, cells := 0, slots := 0, locals := 46 } : Room) s m args below meth c H locs 0 0 (MQ below (gQi X σ x) args s 0 0 (gA X)) (F0 m 2 ls [])) :
    ∀ (v2 : Int32) (v3 : Int32) (H : Heap) (locs : List Loc) (ls : Array Slot), gI X σ s H locs → lv_has ls 5 [(0, .ref (X.2.1 + 60)), (1, .int v1), (2, .int v2), (3, .int v3)] → f_X12_thinRing_L71 σ k2 v1 v2 v3 = some x →
    W p l e ({ frames := 2, cells := 0, slots := 0, locals := 46 } : Room) s m args below meth c H locs 0 0 (MQ below (gQi X σ x) args s 0 0 (gA X)) (F0 m 71 ls []) := by
  intro v2 v3 H locs ls hI hl h
  unfold f_X12_thinRing_L71 at h
  refine lv_iload_n Γ.1.1 Γ.1.2.1 dX12_thinRing_71 rfl (lv_at hl 3 rfl) ?_
  refine lv_iconst (v := (2 : Int32)) Γ.1.1 Γ.1.2.1 dX12_thinRing_72 (by decide) ?_
  refine lv_icmp_ge (tgt := 78) Γ.1.1 Γ.1.2.1 dX12_thinRing_73 (by decide) (fun c_7 => ?_) (fun c_7 => ?_)
  · replace h := ite_pos c_7 h; clear c_7
    obtain ⟨v2_8, e_v2_8, h⟩ := nm_some h
    refine lv_iinc (v := v2_8) (lv' := [(2, .int v2_8), (0, .ref (X.2.1 + 60)), (1, .int v1), (3, .int v3)]) Γ.1.1 Γ.1.2.1 dX12_thinRing_78 hl (k := 2) rfl (by rw [e_v2_8]; rfl) (by decide) rfl (fun ls hl => ?_)
    clear e_v2_8
    refine lv_goto (tgt := 2) Γ.1.1 Γ.1.2.1 dX12_thinRing_81 (by decide) ?_
    exact hk2 v2_8 _ _ _ hI (lv_sub hl [1, 2, 0] rfl) h
  · replace h := ite_neg c_7 h; clear c_7
    refine lv_iload_n Γ.1.1 Γ.1.2.1 dX12_thinRing_76 rfl (lv_at hl 2 rfl) ?_
    exact g_iret Γ hI dX12_thinRing_77 rfl (Option.some.inj h)
set_option maxRecDepth 20000 in
set_option maxHeartbeats 4000000 in
theorem s_X12_thinRing_L32 {p : Program} {l : Launch} {e : Env} {s : State} {m : MethodId} {args : Array Value} {below : List Frame} {meth : Method} {c : Code} {X : GX} (σ : GM) (x : Int32) (Γ : gC X p m meth c cX12_thinRing 5 s args RX12 (some .int)) (v1 : Int32) (v2 : Int32) (k2 : Int32 → Option Int32) (hk2 : ∀ (v2 : Int32) (H : Heap) (locs : List Loc) (ls : Array Slot), gI X σ s H locs → lv_has ls 5 [(0, .ref (X.2.1 + 60)), (1, .int v1), (2, .int v2)] → k2 v2 = some x → W p l e ({ frames := 2, cells := 0, slots := 0, locals := 46 } : Room) s m args below meth c H locs 0 0 (MQ below (gQi X σ x) args s 0 0 (gA X)) (F0 m 2 ls [])) :
    ∀ (k : Nat) (v3 : Int32) (v4 : Int32) (H : Heap) (locs : List Loc) (ls : Array Slot), gI X σ s H locs → lv_has ls 5 [(0, .ref (X.2.1 + 60)), (1, .int v1), (2, .int v2), (3, .int v3), (4, .int v4)] → f_X12_thinRing_L32 σ k2 v1 v2 k v3 v4 = some x →
    W p l e ({ frames := 2, cells := 0, slots := 0, locals := 46 } : Room) s m args below meth c H locs 0 0 (MQ below (gQi X σ x) args s 0 0 (gA X)) (F0 m 32 ls []) := by
  intro k
  induction k with
  | zero =>
    intro v3 v4 H locs ls hI hl h
    exact absurd h (by simp [f_X12_thinRing_L32])
  | succ k ih =>
    intro v3 v4 H locs ls hI hl h
    unfold f_X12_thinRing_L32 at h
    refine lv_iload Γ.1.1 Γ.1.2.1 dX12_thinRing_32 (lv_at hl 4 rfl) ?_
    refine lv_bipush (v := (12 : Int32)) Γ.1.1 Γ.1.2.1 dX12_thinRing_34 (by decide) ?_
    refine lv_icmp_ge (tgt := 71) Γ.1.1 Γ.1.2.1 dX12_thinRing_36 (by decide) (fun c_6 => ?_) (fun c_6 => ?_)
    · replace h := ite_pos c_6 h; clear c_6
      exact s_X12_thinRing_L71 σ x Γ v1 _ hk2 v2 v3 _ _ _ hI (lv_sub hl [0, 1, 2, 3] rfl) h
    · replace h := ite_neg c_6 h; clear c_6
      refine lv_iload_n Γ.1.1 Γ.1.2.1 dX12_thinRing_39 rfl (lv_at hl 2 rfl) ?_
      refine lv_iload Γ.1.1 Γ.1.2.1 dX12_thinRing_40 (lv_at hl 4 rfl) ?_
      obtain ⟨r_9, hr_9, h⟩ := ob_some h
      refine g_ci Γ hI (g_runS (As := [.int v2, .int v4]) Γ hI (S_X12_has l X σ v2 v4 r_9 hr_9) mf_X12_has gw_212 rfl rfl ⟨Nat.le_of_ble_eq_true rfl, Nat.le_of_ble_eq_true rfl⟩ rfl hl.1 rfl (Nat.le_of_ble_eq_true rfl) dX12_thinRing_42 ⟨Nat.zero_le _, Nat.zero_le _⟩) (fun H locs hI => ?_)
      clear hr_9
      refine lv_if_eq (tgt := 65) Γ.1.1 Γ.1.2.1 dX12_thinRing_45 (by decide) (fun c_11 => ?_) (fun c_11 => ?_)
      · replace h := ite_pos c_11 h; clear c_11
        obtain ⟨v4_12, e_v4_12, h⟩ := nm_some h
        refine lv_iinc (v := v4_12) (lv' := [(4, .int v4_12), (0, .ref (X.2.1 + 60)), (1, .int v1), (2, .int v2), (3, .int v3)]) Γ.1.1 Γ.1.2.1 dX12_thinRing_65 hl (k := 4) rfl (by rw [e_v4_12]; rfl) (by decide) rfl (fun ls hl => ?_)
        clear e_v4_12
        refine lv_goto (tgt := 32) Γ.1.1 Γ.1.2.1 dX12_thinRing_68 (by decide) ?_
        exact ih v3 v4_12 _ _ _ hI (lv_sub hl [1, 2, 3, 4, 0] rfl) h
      · replace h := ite_neg c_11 h; clear c_11
        refine lv_aload_n Γ.1.1 Γ.1.2.1 dX12_thinRing_48 rfl (lv_at hl 0 rfl) ?_
        refine get_X12_now Γ hI gw_244 dX12_thinRing_49 ?_
        refine lv_iload Γ.1.1 Γ.1.2.1 dX12_thinRing_52 (lv_at hl 4 rfl) ?_
        refine lv_iload_n Γ.1.1 Γ.1.2.1 dX12_thinRing_54 rfl (lv_at hl 1 rfl) ?_
        obtain ⟨r_13, hr_13, h⟩ := ob_some h
        refine g_ci Γ hI (g_runS (As := [.ref (X.2.1 + 62), .int v4, .int v1]) Γ hI (S_X12_ends l X σ 62 sh_62 v4 v1 r_13 hr_13) mf_X12_ends gw_233 rfl rfl ⟨Nat.le_of_ble_eq_true rfl, Nat.le_of_ble_eq_true rfl⟩ rfl hl.1 rfl (Nat.le_of_ble_eq_true rfl) dX12_thinRing_55 ⟨Nat.zero_le _, Nat.zero_le _⟩) (fun H locs hI => ?_)
        clear hr_13
        refine lv_iconst (v := (2 : Int32)) Γ.1.1 Γ.1.2.1 dX12_thinRing_58 (by decide) ?_
        refine lv_icmp_le (tgt := 65) Γ.1.1 Γ.1.2.1 dX12_thinRing_59 (by decide) (fun c_15 => ?_) (fun c_15 => ?_)
        · replace h := ite_pos c_15 h; clear c_15
          obtain ⟨v4_16, e_v4_16, h⟩ := nm_some h
          refine lv_iinc (v := v4_16) (lv' := [(4, .int v4_16), (0, .ref (X.2.1 + 60)), (1, .int v1), (2, .int v2), (3, .int v3)]) Γ.1.1 Γ.1.2.1 dX12_thinRing_65 hl (k := 4) rfl (by rw [e_v4_16]; rfl) (by decide) rfl (fun ls hl => ?_)
          clear e_v4_16
          refine lv_goto (tgt := 32) Γ.1.1 Γ.1.2.1 dX12_thinRing_68 (by decide) ?_
          exact ih v3 v4_16 _ _ _ hI (lv_sub hl [1, 2, 3, 4, 0] rfl) h
        · replace h := ite_neg c_15 h; clear c_15
          obtain ⟨v3_17, e_v3_17, h⟩ := nm_some h
          refine lv_iinc (v := v3_17) (lv' := [(3, .int v3_17), (0, .ref (X.2.1 + 60)), (1, .int v1), (2, .int v2), (4, .int v4)]) Γ.1.1 Γ.1.2.1 dX12_thinRing_62 hl (k := 3) rfl (by rw [e_v3_17]; rfl) (by decide) rfl (fun ls hl => ?_)
          clear e_v3_17
          obtain ⟨v4_18, e_v4_18, h⟩ := nm_some h
          refine lv_iinc (v := v4_18) (lv' := [(4, .int v4_18), (3, .int v3_17), (0, .ref (X.2.1 + 60)), (1, .int v1), (2, .int v2)]) Γ.1.1 Γ.1.2.1 dX12_thinRing_65 hl (k := 4) rfl (by rw [e_v4_18]; rfl) (by decide) rfl (fun ls hl => ?_)
          clear e_v4_18
          refine lv_goto (tgt := 32) Γ.1.1 Γ.1.2.1 dX12_thinRing_68 (by decide) ?_
          exact ih v3_17 v4_18 _ _ _ hI (lv_sub hl [2, 3, 4, 1, 0] rfl) h
set_option maxRecDepth 20000 in
set_option maxHeartbeats 4000000 in
theorem s_X12_thinRing_L2 {p : Program} {l : Launch} {e : Env} {s : State} {m : MethodId} {args : Array Value} {below : List Frame} {meth : Method} {c : Code} {X : GX} (σ : GM) (x : Int32) (Γ : gC X p m meth c cX12_thinRing 5 s args RX12 (some .int)) (v1 : Int32) :
    ∀ (k : Nat) (v2 : Int32) (H : Heap) (locs : List Loc) (ls : Array Slot), gI X σ s H locs → lv_has ls 5 [(0, .ref (X.2.1 + 60)), (1, .int v1), (2, .int v2)] → f_X12_thinRing_L2 σ v1 k v2 = some x →
    W p l e ({ frames := 2, cells := 0, slots := 0, locals := 46 } : Room) s m args below meth c H locs 0 0 (MQ below (gQi X σ x) args s 0 0 (gA X)) (F0 m 2 ls []) := by
  intro k
  induction k with
  | zero =>
    intro v2 H locs ls hI hl h
    exact absurd h (by simp [f_X12_thinRing_L2])
  | succ k ih =>
    intro v2 H locs ls hI hl h
    unfold f_X12_thinRing_L2 at h
    refine lv_iload_n Γ.1.1 Γ.1.2.1 dX12_thinRing_2 rfl (lv_at hl 2 rfl) ?_
    refine lv_iload_n Γ.1.1 Γ.1.2.1 dX12_thinRing_3 rfl (lv_at hl 1 rfl) ?_
    refine lv_icmp_gt (tgt := 84) Γ.1.1 Γ.1.2.1 dX12_thinRing_4 (by decide) (fun c_1 => ?_) (fun c_1 => ?_)
    · replace h := ite_pos c_1 h; clear c_1
      refine lv_iconst (v := (0 : Int32)) Γ.1.1 Γ.1.2.1 dX12_thinRing_84 (by decide) ?_
      exact g_iret Γ hI dX12_thinRing_85 rfl (Option.some.inj h)
    · replace h := ite_neg c_1 h; clear c_1
      refine lv_aload_n Γ.1.1 Γ.1.2.1 dX12_thinRing_7 rfl (lv_at hl 0 rfl) ?_
      refine get_X12_isRing Γ hI gw_265 dX12_thinRing_8 ?_
      refine lv_iload_n Γ.1.1 Γ.1.2.1 dX12_thinRing_11 rfl (lv_at hl 2 rfl) ?_
      obtain ⟨hb_2, h⟩ := bnd_some h
      refine g_zald Γ hI sh_70 hb_2 dX12_thinRing_12 ?_
      refine lv_if_eq (tgt := 78) Γ.1.1 Γ.1.2.1 dX12_thinRing_13 (by decide) (fun c_3 => ?_) (fun c_3 => ?_)
      · replace h := ite_pos c_3 h; clear c_3
        obtain ⟨v2_4, e_v2_4, h⟩ := nm_some h
        refine lv_iinc (v := v2_4) (lv' := [(2, .int v2_4), (0, .ref (X.2.1 + 60)), (1, .int v1)]) Γ.1.1 Γ.1.2.1 dX12_thinRing_78 hl (k := 2) rfl (by rw [e_v2_4]; rfl) (by decide) rfl (fun ls hl => ?_)
        clear e_v2_4
        refine lv_goto (tgt := 2) Γ.1.1 Γ.1.2.1 dX12_thinRing_81 (by decide) ?_
        exact ih v2_4 _ _ _ hI (lv_sub hl [1, 2, 0] rfl) h
      · replace h := ite_neg c_3 h; clear c_3
        refine lv_iload_n Γ.1.1 Γ.1.2.1 dX12_thinRing_16 rfl (lv_at hl 2 rfl) ?_
        refine lv_iload_n Γ.1.1 Γ.1.2.1 dX12_thinRing_17 rfl (lv_at hl 1 rfl) ?_
        refine lv_iconst (v := (-1 : Int32)) Γ.1.1 Γ.1.2.1 dX12_thinRing_18 (by decide) ?_
        refine lv_ixor Γ.1.1 Γ.1.2.1 dX12_thinRing_19 ?_
        refine lv_iand Γ.1.1 Γ.1.2.1 dX12_thinRing_20 ?_
        refine lv_if_eq (tgt := 27) Γ.1.1 Γ.1.2.1 dX12_thinRing_21 (by decide) (fun c_5 => ?_) (fun c_5 => ?_)
        · replace h := ite_pos c_5 h; clear c_5
          refine lv_iconst (v := (0 : Int32)) Γ.1.1 Γ.1.2.1 dX12_thinRing_27 (by decide) ?_
          refine lv_istore_n (lv' := [(3, .int (0 : Int32)), (0, .ref (X.2.1 + 60)), (1, .int v1), (2, .int v2)]) Γ.1.1 Γ.1.2.1 dX12_thinRing_28 rfl hl (by decide) rfl (fun ls hl => ?_)
          refine lv_iconst (v := (0 : Int32)) Γ.1.1 Γ.1.2.1 dX12_thinRing_29 (by decide) ?_
          refine lv_istore (lv' := [(4, .int (0 : Int32)), (3, .int (0 : Int32)), (0, .ref (X.2.1 + 60)), (1, .int v1), (2, .int v2)]) Γ.1.1 Γ.1.2.1 dX12_thinRing_30 hl (by decide) rfl (fun ls hl => ?_)
          exact s_X12_thinRing_L32 σ x Γ v1 v2 _ ih _ (0 : Int32) (0 : Int32) _ _ _ hI (lv_sub hl [2, 3, 4, 1, 0] rfl) h
        · replace h := ite_neg c_5 h; clear c_5
          refine lv_goto (tgt := 78) Γ.1.1 Γ.1.2.1 dX12_thinRing_24 (by decide) ?_
          obtain ⟨v2_19, e_v2_19, h⟩ := nm_some h
          refine lv_iinc (v := v2_19) (lv' := [(2, .int v2_19), (0, .ref (X.2.1 + 60)), (1, .int v1)]) Γ.1.1 Γ.1.2.1 dX12_thinRing_78 hl (k := 2) rfl (by rw [e_v2_19]; rfl) (by decide) rfl (fun ls hl => ?_)
          clear e_v2_19
          refine lv_goto (tgt := 2) Γ.1.1 Γ.1.2.1 dX12_thinRing_81 (by decide) ?_
          exact ih v2_19 _ _ _ hI (lv_sub hl [1, 2, 0] rfl) h
