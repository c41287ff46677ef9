/-! WALKS 1 (by gen.py) -/
set_option maxRecDepth 20000 in
set_option maxHeartbeats 4000000 in
theorem S_J6_bitCount_0f7a4 (l : Launch) (X : GX) (σ : GM) (v0 : Int32) (x : Int32) (h : f_J6_bitCount_0f7a4 σ v0 = some x) : gMet l yJ6_bitCount_0f7a4 cJ6_bitCount_0f7a4 1 (some .int) ({ frames := 0, cells := 0, slots := 0, locals := 0 } : Room) X σ [.int v0] (gQi X σ x) := by
  unfold f_J6_bitCount_0f7a4 at h
  refine gMet_of (lv := [(0, .int v0)]) (by decide) rfl (Nat.le_of_ble_eq_true rfl) rfl (fun p e s m below meth c H ls Γ hI hl => ?_)
  refine lv_iload_n Γ.1.1 Γ.1.2.1 dJ6_bitCount_0f7a4_0 rfl (lv_at hl 0 rfl) ?_
  refine lv_iload_n Γ.1.1 Γ.1.2.1 dJ6_bitCount_0f7a4_1 rfl (lv_at hl 0 rfl) ?_
  refine lv_iconst (v := (1 : Int32)) Γ.1.1 Γ.1.2.1 dJ6_bitCount_0f7a4_2 (by decide) ?_
  refine lv_iushr (v := (jushr v0 (1 : Int32))) Γ.1.1 Γ.1.2.1 dJ6_bitCount_0f7a4_3 rfl ?_
  refine lv_ldcw (v := (1431655765 : Int32)) Γ.1.1 Γ.1.2.1 Γ.1.2.2.2.1 (Γ.1.2.2.2.2 _ gw_0) dJ6_bitCount_0f7a4_4 ?_
  refine lv_iand Γ.1.1 Γ.1.2.1 dJ6_bitCount_0f7a4_7 ?_
  refine lv_isub Γ.1.1 Γ.1.2.1 dJ6_bitCount_0f7a4_8 ?_
  refine lv_topi (fun v0_1 e_v0_1 => ?_)
  replace h := nm_at e_v0_1 h; clear e_v0_1
  refine lv_istore_n (lv' := [(0, .int v0_1)]) Γ.1.1 Γ.1.2.1 dJ6_bitCount_0f7a4_9 rfl hl (by decide) rfl (fun ls hl => ?_)
  refine lv_iload_n Γ.1.1 Γ.1.2.1 dJ6_bitCount_0f7a4_10 rfl (lv_at hl 0 rfl) ?_
  refine lv_ldcw (v := (858993459 : Int32)) Γ.1.1 Γ.1.2.1 Γ.1.2.2.2.1 (Γ.1.2.2.2.2 _ gw_1) dJ6_bitCount_0f7a4_11 ?_
  refine lv_iand Γ.1.1 Γ.1.2.1 dJ6_bitCount_0f7a4_14 ?_
  refine lv_iload_n Γ.1.1 Γ.1.2.1 dJ6_bitCount_0f7a4_15 rfl (lv_at hl 0 rfl) ?_
  refine lv_iconst (v := (2 : Int32)) Γ.1.1 Γ.1.2.1 dJ6_bitCount_0f7a4_16 (by decide) ?_
  refine lv_iushr (v := (jushr v0_1 (2 : Int32))) Γ.1.1 Γ.1.2.1 dJ6_bitCount_0f7a4_17 rfl ?_
  refine lv_ldcw (v := (858993459 : Int32)) Γ.1.1 Γ.1.2.1 Γ.1.2.2.2.1 (Γ.1.2.2.2.2 _ gw_1) dJ6_bitCount_0f7a4_18 ?_
  refine lv_iand Γ.1.1 Γ.1.2.1 dJ6_bitCount_0f7a4_21 ?_
  refine lv_iadd Γ.1.1 Γ.1.2.1 dJ6_bitCount_0f7a4_22 ?_
  refine lv_topi (fun v0_2 e_v0_2 => ?_)
  replace h := nm_at e_v0_2 h; clear e_v0_2
  refine lv_istore_n (lv' := [(0, .int v0_2)]) Γ.1.1 Γ.1.2.1 dJ6_bitCount_0f7a4_23 rfl hl (by decide) rfl (fun ls hl => ?_)
  refine lv_iload_n Γ.1.1 Γ.1.2.1 dJ6_bitCount_0f7a4_24 rfl (lv_at hl 0 rfl) ?_
  refine lv_iload_n Γ.1.1 Γ.1.2.1 dJ6_bitCount_0f7a4_25 rfl (lv_at hl 0 rfl) ?_
  refine lv_iconst (v := (4 : Int32)) Γ.1.1 Γ.1.2.1 dJ6_bitCount_0f7a4_26 (by decide) ?_
  refine lv_iushr (v := (jushr v0_2 (4 : Int32))) Γ.1.1 Γ.1.2.1 dJ6_bitCount_0f7a4_27 rfl ?_
  refine lv_iadd Γ.1.1 Γ.1.2.1 dJ6_bitCount_0f7a4_28 ?_
  refine lv_ldcw (v := (252645135 : Int32)) Γ.1.1 Γ.1.2.1 Γ.1.2.2.2.1 (Γ.1.2.2.2.2 _ gw_2) dJ6_bitCount_0f7a4_29 ?_
  refine lv_iand Γ.1.1 Γ.1.2.1 dJ6_bitCount_0f7a4_32 ?_
  refine lv_topi (fun v0_3 e_v0_3 => ?_)
  replace h := nm_at e_v0_3 h; clear e_v0_3
  refine lv_istore_n (lv' := [(0, .int v0_3)]) Γ.1.1 Γ.1.2.1 dJ6_bitCount_0f7a4_33 rfl hl (by decide) rfl (fun ls hl => ?_)
  refine lv_iload_n Γ.1.1 Γ.1.2.1 dJ6_bitCount_0f7a4_34 rfl (lv_at hl 0 rfl) ?_
  refine lv_iload_n Γ.1.1 Γ.1.2.1 dJ6_bitCount_0f7a4_35 rfl (lv_at hl 0 rfl) ?_
  refine lv_bipush (v := (8 : Int32)) Γ.1.1 Γ.1.2.1 dJ6_bitCount_0f7a4_36 (by decide) ?_
  refine lv_iushr (v := (jushr v0_3 (8 : Int32))) Γ.1.1 Γ.1.2.1 dJ6_bitCount_0f7a4_38 rfl ?_
  refine lv_iadd Γ.1.1 Γ.1.2.1 dJ6_bitCount_0f7a4_39 ?_
  refine lv_topi (fun v0_4 e_v0_4 => ?_)
  replace h := nm_at e_v0_4 h; clear e_v0_4
  refine lv_istore_n (lv' := [(0, .int v0_4)]) Γ.1.1 Γ.1.2.1 dJ6_bitCount_0f7a4_40 rfl hl (by decide) rfl (fun ls hl => ?_)
  refine lv_iload_n Γ.1.1 Γ.1.2.1 dJ6_bitCount_0f7a4_41 rfl (lv_at hl 0 rfl) ?_
  refine lv_iload_n Γ.1.1 Γ.1.2.1 dJ6_bitCount_0f7a4_42 rfl (lv_at hl 0 rfl) ?_
  refine lv_bipush (v := (16 : Int32)) Γ.1.1 Γ.1.2.1 dJ6_bitCount_0f7a4_43 (by decide) ?_
  refine lv_iushr (v := (jushr v0_4 (16 : Int32))) Γ.1.1 Γ.1.2.1 dJ6_bitCount_0f7a4_45 rfl ?_
  refine lv_iadd Γ.1.1 Γ.1.2.1 dJ6_bitCount_0f7a4_46 ?_
  refine lv_topi (fun v0_5 e_v0_5 => ?_)
  replace h := nm_at e_v0_5 h; clear e_v0_5
  refine lv_istore_n (lv' := [(0, .int v0_5)]) Γ.1.1 Γ.1.2.1 dJ6_bitCount_0f7a4_47 rfl hl (by decide) rfl (fun ls hl => ?_)
  refine lv_iload_n Γ.1.1 Γ.1.2.1 dJ6_bitCount_0f7a4_48 rfl (lv_at hl 0 rfl) ?_
  refine lv_bipush (v := (63 : Int32)) Γ.1.1 Γ.1.2.1 dJ6_bitCount_0f7a4_49 (by decide) ?_
  refine lv_iand Γ.1.1 Γ.1.2.1 dJ6_bitCount_0f7a4_51 ?_
  exact g_iret Γ hI dJ6_bitCount_0f7a4_52 rfl (Option.some.inj h)
set_option maxRecDepth 20000 in
set_option maxHeartbeats 4000000 in
theorem s_X3_empty_L22 {p : Program} {l : Launch} {e : Env} {s : State} {m : MethodId} {args : Array Value} {below : List Frame} {meth : Method} {c : Code} {X : GX} (n : Nat) (hn : sh n = (3, 0)) (σr : GM) (Γ : gC X p m meth c cX3_empty 2 s args RX3 none) :
    ∀ (k : Nat) (σ : GM) (v1 : Int32) (H : Heap) (locs : List Loc) (ls : Array Slot), gI X σ s H locs → lv_has ls 2 [(0, .ref (X.2.1 + n)), (1, .int v1)] → f_X3_empty_L22 n k σ v1 = some σr →
    W p l e ({ frames := 0, cells := 0, slots := 0, locals := 0 } : Room) s m args below meth c H locs 0 0 (MQ below (gQv X σr) args s 0 0 (gA X)) (F0 m 22 ls []) := by
  intro k
  induction k with
  | zero =>
    intro σ v1 H locs ls hI hl h
    exact absurd h (by simp [f_X3_empty_L22])
  | succ k ih =>
    intro σ v1 H locs ls hI hl h
    unfold f_X3_empty_L22 at h
    refine lv_iload_n Γ.1.1 Γ.1.2.1 dX3_empty_22 rfl (lv_at hl 1 rfl) ?_
    refine lv_aload_n Γ.1.1 Γ.1.2.1 dX3_empty_23 rfl (lv_at hl 0 rfl) ?_
    refine get_X3_between hn Γ hI gw_7 dX3_empty_24 ?_
    refine g_alen Γ hI (shN1 hn).2 (by decide) (v := (144 : Int32)) (by decide) dX3_empty_27 ?_
    refine lv_icmp_ge (tgt := 44) Γ.1.1 Γ.1.2.1 dX3_empty_28 (by decide) (fun c_5 => ?_) (fun c_5 => ?_)
    · replace h := ite_pos c_5 h; clear c_5
      exact g_vret Γ hI dX3_empty_44 (Option.some.inj h)
    · replace h := ite_neg c_5 h; clear c_5
      refine lv_aload_n Γ.1.1 Γ.1.2.1 dX3_empty_31 rfl (lv_at hl 0 rfl) ?_
      refine get_X3_between hn Γ hI gw_7 dX3_empty_32 ?_
      refine lv_iload_n Γ.1.1 Γ.1.2.1 dX3_empty_35 rfl (lv_at hl 1 rfl) ?_
      refine lv_iconst (v := (0 : Int32)) Γ.1.1 Γ.1.2.1 dX3_empty_36 (by decide) ?_
      obtain ⟨hb_6, h⟩ := bnd_some h
      refine g_iast Γ hI (shN1 hn).2 hb_6 dX3_empty_37 (fun H locs hI => ?_)
      obtain ⟨σ_7, e_m_7, h⟩ := nm_some h
      rw [← e_m_7] at hI; clear e_m_7
      obtain ⟨v1_8, e_v1_8, h⟩ := nm_some h
      refine lv_iinc (v := v1_8) (lv' := [(1, .int v1_8), (0, .ref (X.2.1 + n))]) Γ.1.1 Γ.1.2.1 dX3_empty_38 hl (k := 1) rfl (by rw [e_v1_8]; rfl) (by decide) rfl (fun ls hl => ?_)
      clear e_v1_8
      refine lv_goto (tgt := 22) Γ.1.1 Γ.1.2.1 dX3_empty_41 (by decide) ?_
      exact ih σ_7 v1_8 _ _ _ hI (lv_sub hl [1, 0] rfl) h
set_option maxRecDepth 20000 in
set_option maxHeartbeats 4000000 in
theorem S_X3_empty (l : Launch) (X : GX) (σ : GM) (n : Nat) (hn : sh n = (3, 0)) (σr : GM) (h : f_X3_empty σ n = some σr) : gMet l yX3_empty cX3_empty 2 none ({ frames := 0, cells := 0, slots := 0, locals := 0 } : Room) X σ [.ref (X.2.1 + n)] (gQv X σr) := by
  unfold f_X3_empty at h
  refine gMet_of (lv := [(0, .ref (X.2.1 + n))]) (by decide) rfl (Nat.le_of_ble_eq_true rfl) rfl (fun p e s m below meth c H ls Γ hI hl => ?_)
  refine lv_aload_n Γ.1.1 Γ.1.2.1 dX3_empty_0 rfl (lv_at hl 0 rfl) ?_
  refine lv_iconst (v := (0 : Int32)) Γ.1.1 Γ.1.2.1 dX3_empty_1 (by decide) ?_
  refine put_X3_told hn Γ hI gw_3 dX3_empty_2 (fun H locs hI => ?_)
  obtain ⟨σ_1, e_m_1, h⟩ := nm_some h
  rw [← e_m_1] at hI; clear e_m_1
  refine lv_aload_n Γ.1.1 Γ.1.2.1 dX3_empty_5 rfl (lv_at hl 0 rfl) ?_
  refine lv_iconst (v := (0 : Int32)) Γ.1.1 Γ.1.2.1 dX3_empty_6 (by decide) ?_
  refine put_X3_there hn Γ hI gw_4 dX3_empty_7 (fun H locs hI => ?_)
  obtain ⟨σ_2, e_m_2, h⟩ := nm_some h
  rw [← e_m_2] at hI; clear e_m_2
  refine lv_aload_n Γ.1.1 Γ.1.2.1 dX3_empty_10 rfl (lv_at hl 0 rfl) ?_
  refine lv_iconst (v := (0 : Int32)) Γ.1.1 Γ.1.2.1 dX3_empty_11 (by decide) ?_
  refine put_X3_taken hn Γ hI gw_5 dX3_empty_12 (fun H locs hI => ?_)
  obtain ⟨σ_3, e_m_3, h⟩ := nm_some h
  rw [← e_m_3] at hI; clear e_m_3
  refine lv_aload_n Γ.1.1 Γ.1.2.1 dX3_empty_15 rfl (lv_at hl 0 rfl) ?_
  refine lv_iconst (v := (0 : Int32)) Γ.1.1 Γ.1.2.1 dX3_empty_16 (by decide) ?_
  refine put_X3_lineCount hn Γ hI gw_6 dX3_empty_17 (fun H locs hI => ?_)
  obtain ⟨σ_4, e_m_4, h⟩ := nm_some h
  rw [← e_m_4] at hI; clear e_m_4
  refine lv_iconst (v := (0 : Int32)) Γ.1.1 Γ.1.2.1 dX3_empty_20 (by decide) ?_
  refine lv_istore_n (lv' := [(1, .int (0 : Int32)), (0, .ref (X.2.1 + n))]) Γ.1.1 Γ.1.2.1 dX3_empty_21 rfl hl (by decide) rfl (fun ls hl => ?_)
  exact s_X3_empty_L22 n hn σr Γ _ σ_4 (0 : Int32) _ _ _ hI (lv_sub hl [1, 0] rfl) h
set_option maxRecDepth 20000 in
set_option maxHeartbeats 4000000 in
theorem s_X3_copyFrom_L72 {p : Program} {l : Launch} {e : Env} {s : State} {m : MethodId} {args : Array Value} {below : List Frame} {meth : Method} {c : Code} {X : GX} (n : Nat) (o : Nat) (hn : sh n = (3, 0)) (ho : sh o = (3, 0)) (σr : GM) (Γ : gC X p m meth c cX3_copyFrom 3 s args RX3 none) :
    ∀ (k : Nat) (σ : GM) (v2 : Int32) (H : Heap) (locs : List Loc) (ls : Array Slot), gI X σ s H locs → lv_has ls 3 [(0, .ref (X.2.1 + n)), (1, .ref (X.2.1 + o)), (2, .int v2)] → f_X3_copyFrom_L72 n o k σ v2 = some σr →
    W p l e ({ frames := 0, cells := 0, slots := 0, locals := 0 } : Room) s m args below meth c H locs 0 0 (MQ below (gQv X σr) args s 0 0 (gA X)) (F0 m 72 ls []) := by
  intro k
  induction k with
  | zero =>
    intro σ v2 H locs ls hI hl h
    exact absurd h (by simp [f_X3_copyFrom_L72])
  | succ k ih =>
    intro σ v2 H locs ls hI hl h
    unfold f_X3_copyFrom_L72 at h
    refine lv_iload_n Γ.1.1 Γ.1.2.1 dX3_copyFrom_72 rfl (lv_at hl 2 rfl) ?_
    refine lv_aload_n Γ.1.1 Γ.1.2.1 dX3_copyFrom_73 rfl (lv_at hl 0 rfl) ?_
    refine get_X3_between hn Γ hI gw_7 dX3_copyFrom_74 ?_
    refine g_alen Γ hI (shN1 hn).2 (by decide) (v := (144 : Int32)) (by decide) dX3_copyFrom_77 ?_
    refine lv_icmp_ge (tgt := 108) Γ.1.1 Γ.1.2.1 dX3_copyFrom_78 (by decide) (fun c_6 => ?_) (fun c_6 => ?_)
    · replace h := ite_pos c_6 h; clear c_6
      exact g_vret Γ hI dX3_copyFrom_108 (Option.some.inj h)
    · replace h := ite_neg c_6 h; clear c_6
      refine lv_iload_n Γ.1.1 Γ.1.2.1 dX3_copyFrom_81 rfl (lv_at hl 2 rfl) ?_
      refine lv_aload_n Γ.1.1 Γ.1.2.1 dX3_copyFrom_82 rfl (lv_at hl 1 rfl) ?_
      refine get_X3_between ho Γ hI gw_7 dX3_copyFrom_83 ?_
      refine g_alen Γ hI (shN1 ho).2 (by decide) (v := (144 : Int32)) (by decide) dX3_copyFrom_86 ?_
      refine lv_icmp_ge (tgt := 108) Γ.1.1 Γ.1.2.1 dX3_copyFrom_87 (by decide) (fun c_7 => ?_) (fun c_7 => ?_)
      · replace h := ite_pos c_7 h; clear c_7
        exact g_vret Γ hI dX3_copyFrom_108 (Option.some.inj h)
      · replace h := ite_neg c_7 h; clear c_7
        refine lv_aload_n Γ.1.1 Γ.1.2.1 dX3_copyFrom_90 rfl (lv_at hl 0 rfl) ?_
        refine get_X3_between hn Γ hI gw_7 dX3_copyFrom_91 ?_
        refine lv_iload_n Γ.1.1 Γ.1.2.1 dX3_copyFrom_94 rfl (lv_at hl 2 rfl) ?_
        refine lv_aload_n Γ.1.1 Γ.1.2.1 dX3_copyFrom_95 rfl (lv_at hl 1 rfl) ?_
        refine get_X3_between ho Γ hI gw_7 dX3_copyFrom_96 ?_
        refine lv_iload_n Γ.1.1 Γ.1.2.1 dX3_copyFrom_99 rfl (lv_at hl 2 rfl) ?_
        obtain ⟨hb_8, h⟩ := bnd_some h
        refine g_iald Γ hI (shN1 ho).2 hb_8 dX3_copyFrom_100 ?_
        obtain ⟨hb_9, h⟩ := bnd_some h
        refine g_iast Γ hI (shN1 hn).2 hb_9 dX3_copyFrom_101 (fun H locs hI => ?_)
        obtain ⟨σ_10, e_m_10, h⟩ := nm_some h
        rw [← e_m_10] at hI; clear e_m_10
        obtain ⟨v2_11, e_v2_11, h⟩ := nm_some h
        refine lv_iinc (v := v2_11) (lv' := [(2, .int v2_11), (0, .ref (X.2.1 + n)), (1, .ref (X.2.1 + o))]) Γ.1.1 Γ.1.2.1 dX3_copyFrom_102 hl (k := 2) rfl (by rw [e_v2_11]; rfl) (by decide) rfl (fun ls hl => ?_)
        clear e_v2_11
        refine lv_goto (tgt := 72) Γ.1.1 Γ.1.2.1 dX3_copyFrom_105 (by decide) ?_
        exact ih σ_10 v2_11 _ _ _ hI (lv_sub hl [1, 2, 0] rfl) h
set_option maxRecDepth 20000 in
set_option maxHeartbeats 4000000 in
theorem s_X3_copyFrom_L34 {p : Program} {l : Launch} {e : Env} {s : State} {m : MethodId} {args : Array Value} {below : List Frame} {meth : Method} {c : Code} {X : GX} (n : Nat) (o : Nat) (hn : sh n = (3, 0)) (ho : sh o = (3, 0)) (σr : GM) (Γ : gC X p m meth c cX3_copyFrom 3 s args RX3 none) :
    ∀ (k : Nat) (σ : GM) (v2 : Int32) (H : Heap) (locs : List Loc) (ls : Array Slot), gI X σ s H locs → lv_has ls 3 [(0, .ref (X.2.1 + n)), (1, .ref (X.2.1 + o)), (2, .int v2)] → f_X3_copyFrom_L34 n o k σ v2 = some σr →
    W p l e ({ frames := 0, cells := 0, slots := 0, locals := 0 } : Room) s m args below meth c H locs 0 0 (MQ below (gQv X σr) args s 0 0 (gA X)) (F0 m 34 ls []) := by
  intro k
  induction k with
  | zero =>
    intro σ v2 H locs ls hI hl h
    exact absurd h (by simp [f_X3_copyFrom_L34])
  | succ k ih =>
    intro σ v2 H locs ls hI hl h
    unfold f_X3_copyFrom_L34 at h
    refine lv_iload_n Γ.1.1 Γ.1.2.1 dX3_copyFrom_34 rfl (lv_at hl 2 rfl) ?_
    refine lv_aload_n Γ.1.1 Γ.1.2.1 dX3_copyFrom_35 rfl (lv_at hl 0 rfl) ?_
    refine get_X3_weights hn Γ hI gw_8 dX3_copyFrom_36 ?_
    refine g_alen Γ hI (shN1 hn).1 (by decide) (v := (12 : Int32)) (by decide) dX3_copyFrom_39 ?_
    refine lv_icmp_ge (tgt := 70) Γ.1.1 Γ.1.2.1 dX3_copyFrom_40 (by decide) (fun c_5 => ?_) (fun c_5 => ?_)
    · replace h := ite_pos c_5 h; clear c_5
      refine lv_iconst (v := (0 : Int32)) Γ.1.1 Γ.1.2.1 dX3_copyFrom_70 (by decide) ?_
      refine lv_istore_n (lv' := [(2, .int (0 : Int32)), (0, .ref (X.2.1 + n)), (1, .ref (X.2.1 + o))]) Γ.1.1 Γ.1.2.1 dX3_copyFrom_71 rfl hl (by decide) rfl (fun ls hl => ?_)
      exact s_X3_copyFrom_L72 n o hn ho σr Γ _ σ (0 : Int32) _ _ _ hI (lv_sub hl [1, 2, 0] rfl) h
    · replace h := ite_neg c_5 h; clear c_5
      refine lv_iload_n Γ.1.1 Γ.1.2.1 dX3_copyFrom_43 rfl (lv_at hl 2 rfl) ?_
      refine lv_aload_n Γ.1.1 Γ.1.2.1 dX3_copyFrom_44 rfl (lv_at hl 1 rfl) ?_
      refine get_X3_weights ho Γ hI gw_8 dX3_copyFrom_45 ?_
      refine g_alen Γ hI (shN1 ho).1 (by decide) (v := (12 : Int32)) (by decide) dX3_copyFrom_48 ?_
      refine lv_icmp_ge (tgt := 70) Γ.1.1 Γ.1.2.1 dX3_copyFrom_49 (by decide) (fun c_12 => ?_) (fun c_12 => ?_)
      · replace h := ite_pos c_12 h; clear c_12
        refine lv_iconst (v := (0 : Int32)) Γ.1.1 Γ.1.2.1 dX3_copyFrom_70 (by decide) ?_
        refine lv_istore_n (lv' := [(2, .int (0 : Int32)), (0, .ref (X.2.1 + n)), (1, .ref (X.2.1 + o))]) Γ.1.1 Γ.1.2.1 dX3_copyFrom_71 rfl hl (by decide) rfl (fun ls hl => ?_)
        exact s_X3_copyFrom_L72 n o hn ho σr Γ _ σ (0 : Int32) _ _ _ hI (lv_sub hl [1, 2, 0] rfl) h
      · replace h := ite_neg c_12 h; clear c_12
        refine lv_aload_n Γ.1.1 Γ.1.2.1 dX3_copyFrom_52 rfl (lv_at hl 0 rfl) ?_
        refine get_X3_weights hn Γ hI gw_8 dX3_copyFrom_53 ?_
        refine lv_iload_n Γ.1.1 Γ.1.2.1 dX3_copyFrom_56 rfl (lv_at hl 2 rfl) ?_
        refine lv_aload_n Γ.1.1 Γ.1.2.1 dX3_copyFrom_57 rfl (lv_at hl 1 rfl) ?_
        refine get_X3_weights ho Γ hI gw_8 dX3_copyFrom_58 ?_
        refine lv_iload_n Γ.1.1 Γ.1.2.1 dX3_copyFrom_61 rfl (lv_at hl 2 rfl) ?_
        obtain ⟨hb_13, h⟩ := bnd_some h
        refine g_iald Γ hI (shN1 ho).1 hb_13 dX3_copyFrom_62 ?_
        obtain ⟨hb_14, h⟩ := bnd_some h
        refine g_iast Γ hI (shN1 hn).1 hb_14 dX3_copyFrom_63 (fun H locs hI => ?_)
        obtain ⟨σ_15, e_m_15, h⟩ := nm_some h
        rw [← e_m_15] at hI; clear e_m_15
        obtain ⟨v2_16, e_v2_16, h⟩ := nm_some h
        refine lv_iinc (v := v2_16) (lv' := [(2, .int v2_16), (0, .ref (X.2.1 + n)), (1, .ref (X.2.1 + o))]) Γ.1.1 Γ.1.2.1 dX3_copyFrom_64 hl (k := 2) rfl (by rw [e_v2_16]; rfl) (by decide) rfl (fun ls hl => ?_)
        clear e_v2_16
        refine lv_goto (tgt := 34) Γ.1.1 Γ.1.2.1 dX3_copyFrom_67 (by decide) ?_
        exact ih σ_15 v2_16 _ _ _ hI (lv_sub hl [1, 2, 0] rfl) h
set_option maxRecDepth 20000 in
set_option maxHeartbeats 4000000 in
theorem S_X3_copyFrom (l : Launch) (X : GX) (σ : GM) (n : Nat) (o : Nat) (hn : sh n = (3, 0)) (ho : sh o = (3, 0)) (σr : GM) (h : f_X3_copyFrom σ n o = some σr) : gMet l yX3_copyFrom cX3_copyFrom 3 none ({ frames := 0, cells := 0, slots := 0, locals := 0 } : Room) X σ [.ref (X.2.1 + n), .ref (X.2.1 + o)] (gQv X σr) := by
  unfold f_X3_copyFrom at h
  refine gMet_of (lv := [(0, .ref (X.2.1 + n)), (1, .ref (X.2.1 + o))]) (by decide) rfl (Nat.le_of_ble_eq_true rfl) rfl (fun p e s m below meth c H ls Γ hI hl => ?_)
  refine lv_aload_n Γ.1.1 Γ.1.2.1 dX3_copyFrom_0 rfl (lv_at hl 0 rfl) ?_
  refine lv_aload_n Γ.1.1 Γ.1.2.1 dX3_copyFrom_1 rfl (lv_at hl 1 rfl) ?_
  refine get_X3_told ho Γ hI gw_3 dX3_copyFrom_2 ?_
  refine put_X3_told hn Γ hI gw_3 dX3_copyFrom_5 (fun H locs hI => ?_)
  obtain ⟨σ_1, e_m_1, h⟩ := nm_some h
  rw [← e_m_1] at hI; clear e_m_1
  refine lv_aload_n Γ.1.1 Γ.1.2.1 dX3_copyFrom_8 rfl (lv_at hl 0 rfl) ?_
  refine lv_aload_n Γ.1.1 Γ.1.2.1 dX3_copyFrom_9 rfl (lv_at hl 1 rfl) ?_
  refine get_X3_there ho Γ hI gw_4 dX3_copyFrom_10 ?_
  refine put_X3_there hn Γ hI gw_4 dX3_copyFrom_13 (fun H locs hI => ?_)
  obtain ⟨σ_2, e_m_2, h⟩ := nm_some h
  rw [← e_m_2] at hI; clear e_m_2
  refine lv_aload_n Γ.1.1 Γ.1.2.1 dX3_copyFrom_16 rfl (lv_at hl 0 rfl) ?_
  refine lv_aload_n Γ.1.1 Γ.1.2.1 dX3_copyFrom_17 rfl (lv_at hl 1 rfl) ?_
  refine get_X3_taken ho Γ hI gw_5 dX3_copyFrom_18 ?_
  refine put_X3_taken hn Γ hI gw_5 dX3_copyFrom_21 (fun H locs hI => ?_)
  obtain ⟨σ_3, e_m_3, h⟩ := nm_some h
  rw [← e_m_3] at hI; clear e_m_3
  refine lv_aload_n Γ.1.1 Γ.1.2.1 dX3_copyFrom_24 rfl (lv_at hl 0 rfl) ?_
  refine lv_aload_n Γ.1.1 Γ.1.2.1 dX3_copyFrom_25 rfl (lv_at hl 1 rfl) ?_
  refine get_X3_lineCount ho Γ hI gw_6 dX3_copyFrom_26 ?_
  refine put_X3_lineCount hn Γ hI gw_6 dX3_copyFrom_29 (fun H locs hI => ?_)
  obtain ⟨σ_4, e_m_4, h⟩ := nm_some h
  rw [← e_m_4] at hI; clear e_m_4
  refine lv_iconst (v := (0 : Int32)) Γ.1.1 Γ.1.2.1 dX3_copyFrom_32 (by decide) ?_
  refine lv_istore_n (lv' := [(2, .int (0 : Int32)), (0, .ref (X.2.1 + n)), (1, .ref (X.2.1 + o))]) Γ.1.1 Γ.1.2.1 dX3_copyFrom_33 rfl hl (by decide) rfl (fun ls hl => ?_)
  exact s_X3_copyFrom_L34 n o hn ho σr Γ _ σ_4 (0 : Int32) _ _ _ hI (lv_sub hl [1, 2, 0] rfl) h
set_option maxRecDepth 20000 in
set_option maxHeartbeats 4000000 in
theorem S_X3_holds (l : Launch) (X : GX) (σ : GM) (v0 : Int32) (v1 : Int32) (x : Int32) (h : f_X3_holds σ v0 v1 = some x) : gMet l yX3_holds cX3_holds 2 (some .boolean) ({ frames := 0, cells := 0, slots := 0, locals := 0 } : Room) X σ [.int v0, .int v1] (gQi X σ x) := by
  unfold f_X3_holds at h
  refine gMet_of (lv := [(0, .int v0), (1, .int v1)]) (by decide) rfl (Nat.le_of_ble_eq_true rfl) rfl (fun p e s m below meth c H ls Γ hI hl => ?_)
  refine lv_iload_n Γ.1.1 Γ.1.2.1 dX3_holds_0 rfl (lv_at hl 1 rfl) ?_
  refine lv_if_lt (tgt := 22) Γ.1.1 Γ.1.2.1 dX3_holds_1 (by decide) (fun c_1 => ?_) (fun c_1 => ?_)
  · replace h := ite_pos c_1 h; clear c_1
    refine lv_iconst (v := (0 : Int32)) Γ.1.1 Γ.1.2.1 dX3_holds_22 (by decide) ?_
    exact g_zret Γ hI dX3_holds_23 rfl (Option.some.inj h)
  · replace h := ite_neg c_1 h; clear c_1
    refine lv_iload_n Γ.1.1 Γ.1.2.1 dX3_holds_4 rfl (lv_at hl 1 rfl) ?_
    refine lv_bipush (v := (12 : Int32)) Γ.1.1 Γ.1.2.1 dX3_holds_5 (by decide) ?_
    refine lv_icmp_ge (tgt := 22) Γ.1.1 Γ.1.2.1 dX3_holds_7 (by decide) (fun c_2 => ?_) (fun c_2 => ?_)
    · replace h := ite_pos c_2 h; clear c_2
      refine lv_iconst (v := (0 : Int32)) Γ.1.1 Γ.1.2.1 dX3_holds_22 (by decide) ?_
      exact g_zret Γ hI dX3_holds_23 rfl (Option.some.inj h)
    · replace h := ite_neg c_2 h; clear c_2
      refine lv_iload_n Γ.1.1 Γ.1.2.1 dX3_holds_10 rfl (lv_at hl 0 rfl) ?_
      refine lv_iload_n Γ.1.1 Γ.1.2.1 dX3_holds_11 rfl (lv_at hl 1 rfl) ?_
      refine lv_ishr Γ.1.1 Γ.1.2.1 dX3_holds_12 ?_
      refine lv_iconst (v := (1 : Int32)) Γ.1.1 Γ.1.2.1 dX3_holds_13 (by decide) ?_
      refine lv_iand Γ.1.1 Γ.1.2.1 dX3_holds_14 ?_
      refine lv_if_eq (tgt := 22) Γ.1.1 Γ.1.2.1 dX3_holds_15 (by decide) (fun c_3 => ?_) (fun c_3 => ?_)
      · replace h := ite_pos c_3 h; clear c_3
        refine lv_iconst (v := (0 : Int32)) Γ.1.1 Γ.1.2.1 dX3_holds_22 (by decide) ?_
        exact g_zret Γ hI dX3_holds_23 rfl (Option.some.inj h)
      · replace h := ite_neg c_3 h; clear c_3
        refine lv_iconst (v := (1 : Int32)) Γ.1.1 Γ.1.2.1 dX3_holds_18 (by decide) ?_
        refine lv_goto (tgt := 23) Γ.1.1 Γ.1.2.1 dX3_holds_19 (by decide) ?_
        exact g_zret Γ hI dX3_holds_23 rfl (Option.some.inj h)
set_option maxRecDepth 20000 in
set_option maxHeartbeats 4000000 in
theorem S_X3_isThere (l : Launch) (X : GX) (σ : GM) (n : Nat) (hn : sh n = (3, 0)) (v1 : Int32) (x : Int32) (h : f_X3_isThere σ n v1 = some x) : gMet l yX3_isThere cX3_isThere 2 (some .boolean) ({ frames := 1, cells := 0, slots := 0, locals := 21 } : Room) X σ [.ref (X.2.1 + n), .int v1] (gQi X σ x) := by
  unfold f_X3_isThere at h
  refine gMet_of (lv := [(0, .ref (X.2.1 + n)), (1, .int v1)]) (by decide) rfl (Nat.le_of_ble_eq_true rfl) rfl (fun p e s m below meth c H ls Γ hI hl => ?_)
  refine lv_aload_n Γ.1.1 Γ.1.2.1 dX3_isThere_0 rfl (lv_at hl 0 rfl) ?_
  refine get_X3_there hn Γ hI gw_4 dX3_isThere_1 ?_
  refine lv_iload_n Γ.1.1 Γ.1.2.1 dX3_isThere_4 rfl (lv_at hl 1 rfl) ?_
  obtain ⟨r_1, hr_1, h⟩ := ob_some h
  refine g_ci Γ hI (g_runS (As := [.int (σ.1 n 3), .int v1]) Γ hI (S_X3_holds l X σ (σ.1 n 3) v1 r_1 hr_1) mf_X3_holds gw_9 rfl rfl ⟨Nat.le_of_ble_eq_true rfl, Nat.le_of_ble_eq_true rfl⟩ rfl hl.1 rfl (Nat.le_of_ble_eq_true rfl) dX3_isThere_5 ⟨Nat.zero_le _, Nat.zero_le _⟩) (fun H locs hI => ?_)
  clear hr_1
  exact g_zret Γ hI dX3_isThere_8 rfl (Option.some.inj h)
set_option maxRecDepth 20000 in
set_option maxHeartbeats 4000000 in
theorem S_X3_areThere (l : Launch) (X : GX) (σ : GM) (n : Nat) (hn : sh n = (3, 0)) (v1 : Int32) (x : Int32) (h : f_X3_areThere σ n v1 = some x) : gMet l yX3_areThere cX3_areThere 2 (some .boolean) ({ frames := 0, cells := 0, slots := 0, locals := 0 } : Room) X σ [.ref (X.2.1 + n), .int v1] (gQi X σ x) := by
  unfold f_X3_areThere at h
  refine gMet_of (lv := [(0, .ref (X.2.1 + n)), (1, .int v1)]) (by decide) rfl (Nat.le_of_ble_eq_true rfl) rfl (fun p e s m below meth c H ls Γ hI hl => ?_)
  refine lv_iload_n Γ.1.1 Γ.1.2.1 dX3_areThere_0 rfl (lv_at hl 1 rfl) ?_
  refine lv_aload_n Γ.1.1 Γ.1.2.1 dX3_areThere_1 rfl (lv_at hl 0 rfl) ?_
  refine get_X3_there hn Γ hI gw_4 dX3_areThere_2 ?_
  refine lv_iconst (v := (-1 : Int32)) Γ.1.1 Γ.1.2.1 dX3_areThere_5 (by decide) ?_
  refine lv_ixor Γ.1.1 Γ.1.2.1 dX3_areThere_6 ?_
  refine lv_iand Γ.1.1 Γ.1.2.1 dX3_areThere_7 ?_
  refine lv_if_ne (tgt := 15) Γ.1.1 Γ.1.2.1 dX3_areThere_8 (by decide) (fun c_1 => ?_) (fun c_1 => ?_)
  · replace h := ite_neg c_1 h; clear c_1
    refine lv_iconst (v := (0 : Int32)) Γ.1.1 Γ.1.2.1 dX3_areThere_15 (by decide) ?_
    exact g_zret Γ hI dX3_areThere_16 rfl (Option.some.inj h)
  · replace h := ite_pos c_1 h; clear c_1
    refine lv_iconst (v := (1 : Int32)) Γ.1.1 Γ.1.2.1 dX3_areThere_11 (by decide) ?_
    refine lv_goto (tgt := 16) Γ.1.1 Γ.1.2.1 dX3_areThere_12 (by decide) ?_
    exact g_zret Γ hI dX3_areThere_16 rfl (Option.some.inj h)
set_option maxRecDepth 20000 in
set_option maxHeartbeats 4000000 in
theorem S_X3_addPoint (l : Launch) (X : GX) (σ : GM) (n : Nat) (hn : sh n = (3, 0)) (σr : GM) (h : f_X3_addPoint σ n = some σr) : gMet l yX3_addPoint cX3_addPoint 1 none ({ frames := 0, cells := 0, slots := 0, locals := 0 } : Room) X σ [.ref (X.2.1 + n)] (gQv X σr) := by
  unfold f_X3_addPoint at h
  refine gMet_of (lv := [(0, .ref (X.2.1 + n))]) (by decide) rfl (Nat.le_of_ble_eq_true rfl) rfl (fun p e s m below meth c H ls Γ hI hl => ?_)
  refine lv_aload_n Γ.1.1 Γ.1.2.1 dX3_addPoint_0 rfl (lv_at hl 0 rfl) ?_
  refine get_X3_told hn Γ hI gw_3 dX3_addPoint_1 ?_
  refine lv_if_lt (tgt := 54) Γ.1.1 Γ.1.2.1 dX3_addPoint_4 (by decide) (fun c_1 => ?_) (fun c_1 => ?_)
  · replace h := ite_pos c_1 h; clear c_1
    exact g_vret Γ hI dX3_addPoint_54 (Option.some.inj h)
  · replace h := ite_neg c_1 h; clear c_1
    refine lv_aload_n Γ.1.1 Γ.1.2.1 dX3_addPoint_7 rfl (lv_at hl 0 rfl) ?_
    refine get_X3_told hn Γ hI gw_3 dX3_addPoint_8 ?_
    refine lv_aload_n Γ.1.1 Γ.1.2.1 dX3_addPoint_11 rfl (lv_at hl 0 rfl) ?_
    refine get_X3_weights hn Γ hI gw_8 dX3_addPoint_12 ?_
    refine g_alen Γ hI (shN1 hn).1 (by decide) (v := (12 : Int32)) (by decide) dX3_addPoint_15 ?_
    refine lv_icmp_ge (tgt := 54) Γ.1.1 Γ.1.2.1 dX3_addPoint_16 (by decide) (fun c_2 => ?_) (fun c_2 => ?_)
    · replace h := ite_pos c_2 h; clear c_2
      exact g_vret Γ hI dX3_addPoint_54 (Option.some.inj h)
    · replace h := ite_neg c_2 h; clear c_2
      refine lv_aload_n Γ.1.1 Γ.1.2.1 dX3_addPoint_19 rfl (lv_at hl 0 rfl) ?_
      refine get_X3_weights hn Γ hI gw_8 dX3_addPoint_20 ?_
      refine lv_aload_n Γ.1.1 Γ.1.2.1 dX3_addPoint_23 rfl (lv_at hl 0 rfl) ?_
      refine get_X3_told hn Γ hI gw_3 dX3_addPoint_24 ?_
      refine lv_iconst (v := (1 : Int32)) Γ.1.1 Γ.1.2.1 dX3_addPoint_27 (by decide) ?_
      obtain ⟨hb_3, h⟩ := bnd_some h
      refine g_iast Γ hI (shN1 hn).1 hb_3 dX3_addPoint_28 (fun H locs hI => ?_)
      obtain ⟨σ_4, e_m_4, h⟩ := nm_some h
      rw [← e_m_4] at hI; clear e_m_4
      refine lv_aload_n Γ.1.1 Γ.1.2.1 dX3_addPoint_29 rfl (lv_at hl 0 rfl) ?_
      refine lv_dup Γ.1.1 Γ.1.2.1 dX3_addPoint_30 rfl ?_
      refine get_X3_there hn Γ hI gw_4 dX3_addPoint_31 ?_
      refine lv_iconst (v := (1 : Int32)) Γ.1.1 Γ.1.2.1 dX3_addPoint_34 (by decide) ?_
      refine lv_aload_n Γ.1.1 Γ.1.2.1 dX3_addPoint_35 rfl (lv_at hl 0 rfl) ?_
      refine get_X3_told hn Γ hI gw_3 dX3_addPoint_36 ?_
      refine lv_ishl Γ.1.1 Γ.1.2.1 dX3_addPoint_39 ?_
      refine lv_ior Γ.1.1 Γ.1.2.1 dX3_addPoint_40 ?_
      refine put_X3_there hn Γ hI gw_4 dX3_addPoint_41 (fun H locs hI => ?_)
      obtain ⟨σ_5, e_m_5, h⟩ := nm_some h
      rw [← e_m_5] at hI; clear e_m_5
      refine lv_aload_n Γ.1.1 Γ.1.2.1 dX3_addPoint_44 rfl (lv_at hl 0 rfl) ?_
      refine lv_dup Γ.1.1 Γ.1.2.1 dX3_addPoint_45 rfl ?_
      refine get_X3_told hn Γ hI gw_3 dX3_addPoint_46 ?_
      refine lv_iconst (v := (1 : Int32)) Γ.1.1 Γ.1.2.1 dX3_addPoint_49 (by decide) ?_
      refine lv_iadd Γ.1.1 Γ.1.2.1 dX3_addPoint_50 ?_
      refine put_X3_told hn Γ hI gw_3 dX3_addPoint_51 (fun H locs hI => ?_)
      obtain ⟨σ_6, e_m_6, h⟩ := nm_some h
      rw [← e_m_6] at hI; clear e_m_6
      exact g_vret Γ hI dX3_addPoint_54 (Option.some.inj h)
set_option maxRecDepth 20000 in
set_option maxHeartbeats 4000000 in
theorem S_X3_weightOf (l : Launch) (X : GX) (σ : GM) (n : Nat) (hn : sh n = (3, 0)) (v1 : Int32) (x : Int32) (h : f_X3_weightOf σ n v1 = some x) : gMet l yX3_weightOf cX3_weightOf 2 (some .int) ({ frames := 0, cells := 0, slots := 0, locals := 0 } : Room) X σ [.ref (X.2.1 + n), .int v1] (gQi X σ x) := by
  unfold f_X3_weightOf at h
  refine gMet_of (lv := [(0, .ref (X.2.1 + n)), (1, .int v1)]) (by decide) rfl (Nat.le_of_ble_eq_true rfl) rfl (fun p e s m below meth c H ls Γ hI hl => ?_)
  refine lv_iload_n Γ.1.1 Γ.1.2.1 dX3_weightOf_0 rfl (lv_at hl 1 rfl) ?_
  refine lv_if_lt (tgt := 22) Γ.1.1 Γ.1.2.1 dX3_weightOf_1 (by decide) (fun c_1 => ?_) (fun c_1 => ?_)
  · replace h := ite_pos c_1 h; clear c_1
    refine lv_iconst (v := (0 : Int32)) Γ.1.1 Γ.1.2.1 dX3_weightOf_22 (by decide) ?_
    exact g_iret Γ hI dX3_weightOf_23 rfl (Option.some.inj h)
  · replace h := ite_neg c_1 h; clear c_1
    refine lv_iload_n Γ.1.1 Γ.1.2.1 dX3_weightOf_4 rfl (lv_at hl 1 rfl) ?_
    refine lv_aload_n Γ.1.1 Γ.1.2.1 dX3_weightOf_5 rfl (lv_at hl 0 rfl) ?_
    refine get_X3_weights hn Γ hI gw_8 dX3_weightOf_6 ?_
    refine g_alen Γ hI (shN1 hn).1 (by decide) (v := (12 : Int32)) (by decide) dX3_weightOf_9 ?_
    refine lv_icmp_ge (tgt := 22) Γ.1.1 Γ.1.2.1 dX3_weightOf_10 (by decide) (fun c_2 => ?_) (fun c_2 => ?_)
    · replace h := ite_pos c_2 h; clear c_2
      refine lv_iconst (v := (0 : Int32)) Γ.1.1 Γ.1.2.1 dX3_weightOf_22 (by decide) ?_
      exact g_iret Γ hI dX3_weightOf_23 rfl (Option.some.inj h)
    · replace h := ite_neg c_2 h; clear c_2
      refine lv_aload_n Γ.1.1 Γ.1.2.1 dX3_weightOf_13 rfl (lv_at hl 0 rfl) ?_
      refine get_X3_weights hn Γ hI gw_8 dX3_weightOf_14 ?_
      refine lv_iload_n Γ.1.1 Γ.1.2.1 dX3_weightOf_17 rfl (lv_at hl 1 rfl) ?_
      obtain ⟨hb_3, h⟩ := bnd_some h
      refine g_iald Γ hI (shN1 hn).1 hb_3 dX3_weightOf_18 ?_
      refine lv_goto (tgt := 23) Γ.1.1 Γ.1.2.1 dX3_weightOf_19 (by decide) ?_
      exact g_iret Γ hI dX3_weightOf_23 rfl (Option.some.inj h)
set_option maxRecDepth 20000 in
set_option maxHeartbeats 4000000 in
theorem s_X3_weightOfSet_L4 {p : Program} {l : Launch} {e : Env} {s : State} {m : MethodId} {args : Array Value} {below : List Frame} {meth : Method} {c : Code} {X : GX} (σ : GM) (n : Nat) (hn : sh n = (3, 0)) (x : Int32) (Γ : gC X p m meth c cX3_weightOfSet 4 s args RX3 (some .int)) (v1 : Int32) :
    ∀ (k : Nat) (v2 : Int32) (v3 : Int32) (H : Heap) (locs : List Loc) (ls : Array Slot), gI X σ s H locs → lv_has ls 4 [(0, .ref (X.2.1 + n)), (1, .int v1), (2, .int v2), (3, .int v3)] → f_X3_weightOfSet_L4 σ n v1 k v2 v3 = some x →
    W p l e ({ frames := 1, cells := 0, slots := 0, locals := 21 } : Room) s m args below meth c H locs 0 0 (MQ below (gQi X σ x) args s 0 0 (gA X)) (F0 m 4 ls []) := by
  intro k
  induction k with
  | zero =>
    intro v2 v3 H locs ls hI hl h
    exact absurd h (by simp [f_X3_weightOfSet_L4])
  | succ k ih =>
    intro v2 v3 H locs ls hI hl h
    unfold f_X3_weightOfSet_L4 at h
    refine lv_iload_n Γ.1.1 Γ.1.2.1 dX3_weightOfSet_4 rfl (lv_at hl 3 rfl) ?_
    refine lv_bipush (v := (12 : Int32)) Γ.1.1 Γ.1.2.1 dX3_weightOfSet_5 (by decide) ?_
    refine lv_icmp_ge (tgt := 32) Γ.1.1 Γ.1.2.1 dX3_weightOfSet_7 (by decide) (fun c_1 => ?_) (fun c_1 => ?_)
    · replace h := ite_pos c_1 h; clear c_1
      refine lv_iload_n Γ.1.1 Γ.1.2.1 dX3_weightOfSet_32 rfl (lv_at hl 2 rfl) ?_
      exact g_iret Γ hI dX3_weightOfSet_33 rfl (Option.some.inj h)
    · replace h := ite_neg c_1 h; clear c_1
      refine lv_iload_n Γ.1.1 Γ.1.2.1 dX3_weightOfSet_10 rfl (lv_at hl 1 rfl) ?_
      refine lv_iload_n Γ.1.1 Γ.1.2.1 dX3_weightOfSet_11 rfl (lv_at hl 3 rfl) ?_
      obtain ⟨r_2, hr_2, h⟩ := ob_some h
      refine g_ci Γ hI (g_runS (As := [.int v1, .int v3]) Γ hI (S_X3_holds l X σ v1 v3 r_2 hr_2) mf_X3_holds gw_9 rfl rfl ⟨Nat.le_of_ble_eq_true rfl, Nat.le_of_ble_eq_true rfl⟩ rfl hl.1 rfl (Nat.le_of_ble_eq_true rfl) dX3_weightOfSet_12 ⟨Nat.zero_le _, Nat.zero_le _⟩) (fun H locs hI => ?_)
      clear hr_2
      refine lv_if_eq (tgt := 26) Γ.1.1 Γ.1.2.1 dX3_weightOfSet_15 (by decide) (fun c_4 => ?_) (fun c_4 => ?_)
      · replace h := ite_pos c_4 h; clear c_4
        obtain ⟨v3_5, e_v3_5, h⟩ := nm_some h
        refine lv_iinc (v := v3_5) (lv' := [(3, .int v3_5), (0, .ref (X.2.1 + n)), (1, .int v1), (2, .int v2)]) Γ.1.1 Γ.1.2.1 dX3_weightOfSet_26 hl (k := 3) rfl (by rw [e_v3_5]; rfl) (by decide) rfl (fun ls hl => ?_)
        clear e_v3_5
        refine lv_goto (tgt := 4) Γ.1.1 Γ.1.2.1 dX3_weightOfSet_29 (by decide) ?_
        exact ih v2 v3_5 _ _ _ hI (lv_sub hl [1, 2, 3, 0] rfl) h
      · replace h := ite_neg c_4 h; clear c_4
        refine lv_iload_n Γ.1.1 Γ.1.2.1 dX3_weightOfSet_18 rfl (lv_at hl 2 rfl) ?_
        refine lv_aload_n Γ.1.1 Γ.1.2.1 dX3_weightOfSet_19 rfl (lv_at hl 0 rfl) ?_
        refine lv_iload_n Γ.1.1 Γ.1.2.1 dX3_weightOfSet_20 rfl (lv_at hl 3 rfl) ?_
        obtain ⟨r_6, hr_6, h⟩ := ob_some h
        refine g_ci Γ hI (g_runV (As := [.int v3]) Γ hI (S_X3_weightOf l X σ n hn v3 r_6 hr_6) mf_X3_weightOf (recv_X3 hn Γ hI) gw_10 rfl rfl ⟨Nat.le_of_ble_eq_true rfl, Nat.le_of_ble_eq_true rfl⟩ rfl hl.1 rfl (Nat.le_of_ble_eq_true rfl) dX3_weightOfSet_21 ⟨Nat.zero_le _, Nat.zero_le _⟩) (fun H locs hI => ?_)
        clear hr_6
        refine lv_iadd Γ.1.1 Γ.1.2.1 dX3_weightOfSet_24 ?_
        refine lv_topi (fun v2_8 e_v2_8 => ?_)
        replace h := nm_at e_v2_8 h; clear e_v2_8
        refine lv_istore_n (lv' := [(2, .int v2_8), (0, .ref (X.2.1 + n)), (1, .int v1), (3, .int v3)]) Γ.1.1 Γ.1.2.1 dX3_weightOfSet_25 rfl hl (by decide) rfl (fun ls hl => ?_)
        obtain ⟨v3_9, e_v3_9, h⟩ := nm_some h
        refine lv_iinc (v := v3_9) (lv' := [(3, .int v3_9), (2, .int v2_8), (0, .ref (X.2.1 + n)), (1, .int v1)]) Γ.1.1 Γ.1.2.1 dX3_weightOfSet_26 hl (k := 3) rfl (by rw [e_v3_9]; rfl) (by decide) rfl (fun ls hl => ?_)
        clear e_v3_9
        refine lv_goto (tgt := 4) Γ.1.1 Γ.1.2.1 dX3_weightOfSet_29 (by decide) ?_
        exact ih v2_8 v3_9 _ _ _ hI (lv_sub hl [2, 3, 1, 0] rfl) h
set_option maxRecDepth 20000 in
set_option maxHeartbeats 4000000 in
theorem S_X3_weightOfSet (l : Launch) (X : GX) (σ : GM) (n : Nat) (hn : sh n = (3, 0)) (v1 : Int32) (x : Int32) (h : f_X3_weightOfSet σ n v1 = some x) : gMet l yX3_weightOfSet cX3_weightOfSet 4 (some .int) ({ frames := 1, cells := 0, slots := 0, locals := 21 } : Room) X σ [.ref (X.2.1 + n), .int v1] (gQi X σ x) := by
  unfold f_X3_weightOfSet at h
  refine gMet_of (lv := [(0, .ref (X.2.1 + n)), (1, .int v1)]) (by decide) rfl (Nat.le_of_ble_eq_true rfl) rfl (fun p e s m below meth c H ls Γ hI hl => ?_)
  refine lv_iconst (v := (0 : Int32)) Γ.1.1 Γ.1.2.1 dX3_weightOfSet_0 (by decide) ?_
  refine lv_istore_n (lv' := [(2, .int (0 : Int32)), (0, .ref (X.2.1 + n)), (1, .int v1)]) Γ.1.1 Γ.1.2.1 dX3_weightOfSet_1 rfl hl (by decide) rfl (fun ls hl => ?_)
  refine lv_iconst (v := (0 : Int32)) Γ.1.1 Γ.1.2.1 dX3_weightOfSet_2 (by decide) ?_
  refine lv_istore_n (lv' := [(3, .int (0 : Int32)), (2, .int (0 : Int32)), (0, .ref (X.2.1 + n)), (1, .int v1)]) Γ.1.1 Γ.1.2.1 dX3_weightOfSet_3 rfl hl (by decide) rfl (fun ls hl => ?_)
  exact s_X3_weightOfSet_L4 σ n hn x Γ v1 _ (0 : Int32) (0 : Int32) _ _ _ hI (lv_sub hl [2, 3, 1, 0] rfl) h
set_option maxRecDepth 20000 in
set_option maxHeartbeats 4000000 in
theorem S_X3_linesOf (l : Launch) (X : GX) (σ : GM) (n : Nat) (hn : sh n = (3, 0)) (v1 : Int32) (v2 : Int32) (x : Int32) (h : f_X3_linesOf σ n v1 v2 = some x) : gMet l yX3_linesOf cX3_linesOf 4 (some .int) ({ frames := 0, cells := 0, slots := 0, locals := 0 } : Room) X σ [.ref (X.2.1 + n), .int v1, .int v2] (gQi X σ x) := by
  unfold f_X3_linesOf at h
  refine gMet_of (lv := [(0, .ref (X.2.1 + n)), (1, .int v1), (2, .int v2)]) (by decide) rfl (Nat.le_of_ble_eq_true rfl) rfl (fun p e s m below meth c H ls Γ hI hl => ?_)
  refine lv_iload_n Γ.1.1 Γ.1.2.1 dX3_linesOf_0 rfl (lv_at hl 1 rfl) ?_
  refine lv_bipush (v := (12 : Int32)) Γ.1.1 Γ.1.2.1 dX3_linesOf_1 (by decide) ?_
  refine lv_imul Γ.1.1 Γ.1.2.1 dX3_linesOf_3 ?_
  refine lv_iload_n Γ.1.1 Γ.1.2.1 dX3_linesOf_4 rfl (lv_at hl 2 rfl) ?_
  refine lv_iadd Γ.1.1 Γ.1.2.1 dX3_linesOf_5 ?_
  refine lv_topi (fun v3_1 e_v3_1 => ?_)
  replace h := nm_at e_v3_1 h; clear e_v3_1
  refine lv_istore_n (lv' := [(3, .int v3_1), (0, .ref (X.2.1 + n)), (1, .int v1), (2, .int v2)]) Γ.1.1 Γ.1.2.1 dX3_linesOf_6 rfl hl (by decide) rfl (fun ls hl => ?_)
  refine lv_iload_n Γ.1.1 Γ.1.2.1 dX3_linesOf_7 rfl (lv_at hl 2 rfl) ?_
  refine lv_if_lt (tgt := 45) Γ.1.1 Γ.1.2.1 dX3_linesOf_8 (by decide) (fun c_2 => ?_) (fun c_2 => ?_)
  · replace h := ite_pos c_2 h; clear c_2
    refine lv_iconst (v := (0 : Int32)) Γ.1.1 Γ.1.2.1 dX3_linesOf_45 (by decide) ?_
    exact g_iret Γ hI dX3_linesOf_46 rfl (Option.some.inj h)
  · replace h := ite_neg c_2 h; clear c_2
    refine lv_iload_n Γ.1.1 Γ.1.2.1 dX3_linesOf_11 rfl (lv_at hl 2 rfl) ?_
    refine lv_bipush (v := (12 : Int32)) Γ.1.1 Γ.1.2.1 dX3_linesOf_12 (by decide) ?_
    refine lv_icmp_ge (tgt := 45) Γ.1.1 Γ.1.2.1 dX3_linesOf_14 (by decide) (fun c_3 => ?_) (fun c_3 => ?_)
    · replace h := ite_pos c_3 h; clear c_3
      refine lv_iconst (v := (0 : Int32)) Γ.1.1 Γ.1.2.1 dX3_linesOf_45 (by decide) ?_
      exact g_iret Γ hI dX3_linesOf_46 rfl (Option.some.inj h)
    · replace h := ite_neg c_3 h; clear c_3
      refine lv_iload_n Γ.1.1 Γ.1.2.1 dX3_linesOf_17 rfl (lv_at hl 3 rfl) ?_
      refine lv_if_lt (tgt := 45) Γ.1.1 Γ.1.2.1 dX3_linesOf_18 (by decide) (fun c_4 => ?_) (fun c_4 => ?_)
      · replace h := ite_pos c_4 h; clear c_4
        refine lv_iconst (v := (0 : Int32)) Γ.1.1 Γ.1.2.1 dX3_linesOf_45 (by decide) ?_
        exact g_iret Γ hI dX3_linesOf_46 rfl (Option.some.inj h)
      · replace h := ite_neg c_4 h; clear c_4
        refine lv_iload_n Γ.1.1 Γ.1.2.1 dX3_linesOf_21 rfl (lv_at hl 3 rfl) ?_
        refine lv_bipush (v := (12 : Int32)) Γ.1.1 Γ.1.2.1 dX3_linesOf_22 (by decide) ?_
        refine lv_icmp_ge (tgt := 45) Γ.1.1 Γ.1.2.1 dX3_linesOf_24 (by decide) (fun c_5 => ?_) (fun c_5 => ?_)
        · replace h := ite_pos c_5 h; clear c_5
          refine lv_iconst (v := (0 : Int32)) Γ.1.1 Γ.1.2.1 dX3_linesOf_45 (by decide) ?_
          exact g_iret Γ hI dX3_linesOf_46 rfl (Option.some.inj h)
        · replace h := ite_neg c_5 h; clear c_5
          refine lv_iload_n Γ.1.1 Γ.1.2.1 dX3_linesOf_27 rfl (lv_at hl 0 rfl) ?_
          refine lv_aload_n Γ.1.1 Γ.1.2.1 dX3_linesOf_28 rfl (lv_at hl 1 rfl) ?_
          refine get_X3_between hn Γ hI gw_7 dX3_linesOf_29 ?_
          refine g_alen Γ hI (shN1 hn).2 (by decide) (v := (144 : Int32)) (by decide) dX3_linesOf_32 ?_
          refine lv_icmp_ge (tgt := 45) Γ.1.1 Γ.1.2.1 dX3_linesOf_33 (by decide) (fun c_6 => ?_) (fun c_6 => ?_)
          · replace h := ite_pos c_6 h; clear c_6
            refine lv_iconst (v := (0 : Int32)) Γ.1.1 Γ.1.2.1 dX3_linesOf_45 (by decide) ?_
            exact g_iret Γ hI dX3_linesOf_46 rfl (Option.some.inj h)
          · replace h := ite_neg c_6 h; clear c_6
            refine lv_aload_n Γ.1.1 Γ.1.2.1 dX3_linesOf_36 rfl (lv_at hl 1 rfl) ?_
            refine get_X3_between hn Γ hI gw_7 dX3_linesOf_37 ?_
            refine lv_iload_n Γ.1.1 Γ.1.2.1 dX3_linesOf_40 rfl (lv_at hl 0 rfl) ?_
            obtain ⟨hb_7, h⟩ := bnd_some h
            refine g_iald Γ hI (shN1 hn).2 hb_7 dX3_linesOf_41 ?_
            refine lv_goto (tgt := 46) Γ.1.1 Γ.1.2.1 dX3_linesOf_42 (by decide) ?_
            exact g_iret Γ hI dX3_linesOf_46 rfl (Option.some.inj h)
set_option maxRecDepth 20000 in
set_option maxHeartbeats 4000000 in
theorem S_X3_setLines (l : Launch) (X : GX) (σ : GM) (n : Nat) (hn : sh n = (3, 0)) (v1 : Int32) (v2 : Int32) (v3 : Int32) (σr : GM) (h : f_X3_setLines σ n v1 v2 v3 = some σr) : gMet l yX3_setLines cX3_setLines 6 none ({ frames := 1, cells := 0, slots := 0, locals := 21 } : Room) X σ [.ref (X.2.1 + n), .int v1, .int v2, .int v3] (gQv X σr) := by
  unfold f_X3_setLines at h
  refine gMet_of (lv := [(0, .ref (X.2.1 + n)), (1, .int v1), (2, .int v2), (3, .int v3)]) (by decide) rfl (Nat.le_of_ble_eq_true rfl) rfl (fun p e s m below meth c H ls Γ hI hl => ?_)
  refine lv_iload_n Γ.1.1 Γ.1.2.1 dX3_setLines_0 rfl (lv_at hl 1 rfl) ?_
  refine lv_bipush (v := (12 : Int32)) Γ.1.1 Γ.1.2.1 dX3_setLines_1 (by decide) ?_
  refine lv_imul Γ.1.1 Γ.1.2.1 dX3_setLines_3 ?_
  refine lv_iload_n Γ.1.1 Γ.1.2.1 dX3_setLines_4 rfl (lv_at hl 2 rfl) ?_
  refine lv_iadd Γ.1.1 Γ.1.2.1 dX3_setLines_5 ?_
  refine lv_topi (fun v4_1 e_v4_1 => ?_)
  replace h := nm_at e_v4_1 h; clear e_v4_1
  refine lv_istore (lv' := [(4, .int v4_1), (0, .ref (X.2.1 + n)), (1, .int v1), (2, .int v2), (3, .int v3)]) Γ.1.1 Γ.1.2.1 dX3_setLines_6 hl (by decide) rfl (fun ls hl => ?_)
  refine lv_iload_n Γ.1.1 Γ.1.2.1 dX3_setLines_8 rfl (lv_at hl 3 rfl) ?_
  refine lv_bipush (v := (12 : Int32)) Γ.1.1 Γ.1.2.1 dX3_setLines_9 (by decide) ?_
  refine lv_imul Γ.1.1 Γ.1.2.1 dX3_setLines_11 ?_
  refine lv_iload_n Γ.1.1 Γ.1.2.1 dX3_setLines_12 rfl (lv_at hl 2 rfl) ?_
  refine lv_iadd Γ.1.1 Γ.1.2.1 dX3_setLines_13 ?_
  refine lv_topi (fun v5_2 e_v5_2 => ?_)
  replace h := nm_at e_v5_2 h; clear e_v5_2
  refine lv_istore (lv' := [(5, .int v5_2), (4, .int v4_1), (0, .ref (X.2.1 + n)), (1, .int v1), (2, .int v2), (3, .int v3)]) Γ.1.1 Γ.1.2.1 dX3_setLines_14 hl (by decide) rfl (fun ls hl => ?_)
  refine lv_aload_n Γ.1.1 Γ.1.2.1 dX3_setLines_16 rfl (lv_at hl 2 rfl) ?_
  refine get_X3_there hn Γ hI gw_4 dX3_setLines_17 ?_
  refine lv_iload_n Γ.1.1 Γ.1.2.1 dX3_setLines_20 rfl (lv_at hl 3 rfl) ?_
  obtain ⟨r_3, hr_3, h⟩ := ob_some h
  refine g_ci Γ hI (g_runS (As := [.int (σ.1 n 3), .int v1]) Γ hI (S_X3_holds l X σ (σ.1 n 3) v1 r_3 hr_3) mf_X3_holds gw_9 rfl rfl ⟨Nat.le_of_ble_eq_true rfl, Nat.le_of_ble_eq_true rfl⟩ rfl hl.1 rfl (Nat.le_of_ble_eq_true rfl) dX3_setLines_21 ⟨Nat.zero_le _, Nat.zero_le _⟩) (fun H locs hI => ?_)
  clear hr_3
  refine lv_if_eq (tgt := 92) Γ.1.1 Γ.1.2.1 dX3_setLines_24 (by decide) (fun c_5 => ?_) (fun c_5 => ?_)
  · replace h := ite_pos c_5 h; clear c_5
    exact g_vret Γ hI dX3_setLines_92 (Option.some.inj h)
  · replace h := ite_neg c_5 h; clear c_5
    refine lv_aload_n Γ.1.1 Γ.1.2.1 dX3_setLines_27 rfl (lv_at hl 2 rfl) ?_
    refine get_X3_there hn Γ hI gw_4 dX3_setLines_28 ?_
    refine lv_iload_n Γ.1.1 Γ.1.2.1 dX3_setLines_31 rfl (lv_at hl 4 rfl) ?_
    obtain ⟨r_6, hr_6, h⟩ := ob_some h
    refine g_ci Γ hI (g_runS (As := [.int (σ.1 n 3), .int v2]) Γ hI (S_X3_holds l X σ (σ.1 n 3) v2 r_6 hr_6) mf_X3_holds gw_9 rfl rfl ⟨Nat.le_of_ble_eq_true rfl, Nat.le_of_ble_eq_true rfl⟩ rfl hl.1 rfl (Nat.le_of_ble_eq_true rfl) dX3_setLines_32 ⟨Nat.zero_le _, Nat.zero_le _⟩) (fun H locs hI => ?_)
    clear hr_6
    refine lv_if_eq (tgt := 92) Γ.1.1 Γ.1.2.1 dX3_setLines_35 (by decide) (fun c_8 => ?_) (fun c_8 => ?_)
    · replace h := ite_pos c_8 h; clear c_8
      exact g_vret Γ hI dX3_setLines_92 (Option.some.inj h)
    · replace h := ite_neg c_8 h; clear c_8
      refine lv_iload Γ.1.1 Γ.1.2.1 dX3_setLines_38 (lv_at hl 1 rfl) ?_
      refine lv_aload_n Γ.1.1 Γ.1.2.1 dX3_setLines_40 rfl (lv_at hl 2 rfl) ?_
      refine get_X3_between hn Γ hI gw_7 dX3_setLines_41 ?_
      refine g_alen Γ hI (shN1 hn).2 (by decide) (v := (144 : Int32)) (by decide) dX3_setLines_44 ?_
      refine lv_icmp_ge (tgt := 92) Γ.1.1 Γ.1.2.1 dX3_setLines_45 (by decide) (fun c_9 => ?_) (fun c_9 => ?_)
      · replace h := ite_pos c_9 h; clear c_9
        exact g_vret Γ hI dX3_setLines_92 (Option.some.inj h)
      · replace h := ite_neg c_9 h; clear c_9
        refine lv_iload Γ.1.1 Γ.1.2.1 dX3_setLines_48 (lv_at hl 0 rfl) ?_
        refine lv_aload_n Γ.1.1 Γ.1.2.1 dX3_setLines_50 rfl (lv_at hl 2 rfl) ?_
        refine get_X3_between hn Γ hI gw_7 dX3_setLines_51 ?_
        refine g_alen Γ hI (shN1 hn).2 (by decide) (v := (144 : Int32)) (by decide) dX3_setLines_54 ?_
        refine lv_icmp_ge (tgt := 92) Γ.1.1 Γ.1.2.1 dX3_setLines_55 (by decide) (fun c_10 => ?_) (fun c_10 => ?_)
        · replace h := ite_pos c_10 h; clear c_10
          exact g_vret Γ hI dX3_setLines_92 (Option.some.inj h)
        · replace h := ite_neg c_10 h; clear c_10
          refine lv_aload_n Γ.1.1 Γ.1.2.1 dX3_setLines_58 rfl (lv_at hl 2 rfl) ?_
          refine lv_dup Γ.1.1 Γ.1.2.1 dX3_setLines_59 rfl ?_
          refine get_X3_lineCount hn Γ hI gw_6 dX3_setLines_60 ?_
          refine lv_iload_n Γ.1.1 Γ.1.2.1 dX3_setLines_63 rfl (lv_at hl 5 rfl) ?_
          refine lv_aload_n Γ.1.1 Γ.1.2.1 dX3_setLines_64 rfl (lv_at hl 2 rfl) ?_
          refine get_X3_between hn Γ hI gw_7 dX3_setLines_65 ?_
          refine lv_iload Γ.1.1 Γ.1.2.1 dX3_setLines_68 (lv_at hl 1 rfl) ?_
          obtain ⟨hb_11, h⟩ := bnd_some h
          refine g_iald Γ hI (shN1 hn).2 hb_11 dX3_setLines_70 ?_
          refine lv_isub Γ.1.1 Γ.1.2.1 dX3_setLines_71 ?_
          refine lv_iadd Γ.1.1 Γ.1.2.1 dX3_setLines_72 ?_
          refine put_X3_lineCount hn Γ hI gw_6 dX3_setLines_73 (fun H locs hI => ?_)
          obtain ⟨σ_12, e_m_12, h⟩ := nm_some h
          rw [← e_m_12] at hI; clear e_m_12
          refine lv_aload_n Γ.1.1 Γ.1.2.1 dX3_setLines_76 rfl (lv_at hl 2 rfl) ?_
          refine get_X3_between hn Γ hI gw_7 dX3_setLines_77 ?_
          refine lv_iload Γ.1.1 Γ.1.2.1 dX3_setLines_80 (lv_at hl 1 rfl) ?_
          refine lv_iload_n Γ.1.1 Γ.1.2.1 dX3_setLines_82 rfl (lv_at hl 5 rfl) ?_
          obtain ⟨hb_13, h⟩ := bnd_some h
          refine g_iast Γ hI (shN1 hn).2 hb_13 dX3_setLines_83 (fun H locs hI => ?_)
          obtain ⟨σ_14, e_m_14, h⟩ := nm_some h
          rw [← e_m_14] at hI; clear e_m_14
          refine lv_aload_n Γ.1.1 Γ.1.2.1 dX3_setLines_84 rfl (lv_at hl 2 rfl) ?_
          refine get_X3_between hn Γ hI gw_7 dX3_setLines_85 ?_
          refine lv_iload Γ.1.1 Γ.1.2.1 dX3_setLines_88 (lv_at hl 0 rfl) ?_
          refine lv_iload_n Γ.1.1 Γ.1.2.1 dX3_setLines_90 rfl (lv_at hl 5 rfl) ?_
          obtain ⟨hb_15, h⟩ := bnd_some h
          refine g_iast Γ hI (shN1 hn).2 hb_15 dX3_setLines_91 (fun H locs hI => ?_)
          obtain ⟨σ_16, e_m_16, h⟩ := nm_some h
          rw [← e_m_16] at hI; clear e_m_16
          exact g_vret Γ hI dX3_setLines_92 (Option.some.inj h)
set_option maxRecDepth 20000 in
set_option maxHeartbeats 4000000 in
theorem s_X3_besides_L5 {p : Program} {l : Launch} {e : Env} {s : State} {m : MethodId} {args : Array Value} {below : List Frame} {meth : Method} {c : Code} {X : GX} (σ : GM) (n : Nat) (hn : sh n = (3, 0)) (x : Int32) (Γ : gC X p m meth c cX3_besides 5 s args RX3 (some .int)) (v1 : Int32) (v2 : Int32) :
    ∀ (k : Nat) (v3 : Int32) (v4 : Int32) (H : Heap) (locs : List Loc) (ls : Array Slot), gI X σ s H locs → lv_has ls 5 [(0, .ref (X.2.1 + n)), (1, .int v1), (2, .int v2), (3, .int v3), (4, .int v4)] → f_X3_besides_L5 σ n v1 v2 k v3 v4 = some x →
    W p l e ({ frames := 1, cells := 0, slots := 0, locals := 23 } : Room) s m args below meth c H locs 0 0 (MQ below (gQi X σ x) args s 0 0 (gA X)) (F0 m 5 ls []) := by
  intro k
  induction k with
  | zero =>
    intro v3 v4 H locs ls hI hl h
    exact absurd h (by simp [f_X3_besides_L5])
  | succ k ih =>
    intro v3 v4 H locs ls hI hl h
    unfold f_X3_besides_L5 at h
    refine lv_iload Γ.1.1 Γ.1.2.1 dX3_besides_5 (lv_at hl 4 rfl) ?_
    refine lv_bipush (v := (12 : Int32)) Γ.1.1 Γ.1.2.1 dX3_besides_7 (by decide) ?_
    refine lv_icmp_ge (tgt := 42) Γ.1.1 Γ.1.2.1 dX3_besides_9 (by decide) (fun c_1 => ?_) (fun c_1 => ?_)
    · replace h := ite_pos c_1 h; clear c_1
      refine lv_iload_n Γ.1.1 Γ.1.2.1 dX3_besides_42 rfl (lv_at hl 3 rfl) ?_
      exact g_iret Γ hI dX3_besides_43 rfl (Option.some.inj h)
    · replace h := ite_neg c_1 h; clear c_1
      refine lv_iload Γ.1.1 Γ.1.2.1 dX3_besides_12 (lv_at hl 4 rfl) ?_
      refine lv_iload_n Γ.1.1 Γ.1.2.1 dX3_besides_14 rfl (lv_at hl 1 rfl) ?_
      refine lv_icmp_eq (tgt := 36) Γ.1.1 Γ.1.2.1 dX3_besides_15 (by decide) (fun c_2 => ?_) (fun c_2 => ?_)
      · replace h := ite_pos c_2 h; clear c_2
        obtain ⟨v4_3, e_v4_3, h⟩ := nm_some h
        refine lv_iinc (v := v4_3) (lv' := [(4, .int v4_3), (0, .ref (X.2.1 + n)), (1, .int v1), (2, .int v2), (3, .int v3)]) Γ.1.1 Γ.1.2.1 dX3_besides_36 hl (k := 4) rfl (by rw [e_v4_3]; rfl) (by decide) rfl (fun ls hl => ?_)
        clear e_v4_3
        refine lv_goto (tgt := 5) Γ.1.1 Γ.1.2.1 dX3_besides_39 (by decide) ?_
        exact ih v3 v4_3 _ _ _ hI (lv_sub hl [1, 2, 3, 4, 0] rfl) h
      · replace h := ite_neg c_2 h; clear c_2
        refine lv_aload_n Γ.1.1 Γ.1.2.1 dX3_besides_18 rfl (lv_at hl 0 rfl) ?_
        refine lv_iload_n Γ.1.1 Γ.1.2.1 dX3_besides_19 rfl (lv_at hl 1 rfl) ?_
        refine lv_iload Γ.1.1 Γ.1.2.1 dX3_besides_20 (lv_at hl 4 rfl) ?_
        obtain ⟨r_4, hr_4, h⟩ := ob_some h
        refine g_ci Γ hI (g_runV (As := [.int v1, .int v4]) Γ hI (S_X3_linesOf l X σ n hn v1 v4 r_4 hr_4) mf_X3_linesOf (recv_X3 hn Γ hI) gw_11 rfl rfl ⟨Nat.le_of_ble_eq_true rfl, Nat.le_of_ble_eq_true rfl⟩ rfl hl.1 rfl (Nat.le_of_ble_eq_true rfl) dX3_besides_22 ⟨Nat.zero_le _, Nat.zero_le _⟩) (fun H locs hI => ?_)
        clear hr_4
        refine lv_iload_n Γ.1.1 Γ.1.2.1 dX3_besides_25 rfl (lv_at hl 2 rfl) ?_
        refine lv_icmp_lt (tgt := 36) Γ.1.1 Γ.1.2.1 dX3_besides_26 (by decide) (fun c_6 => ?_) (fun c_6 => ?_)
        · replace h := ite_pos c_6 h; clear c_6
          obtain ⟨v4_7, e_v4_7, h⟩ := nm_some h
          refine lv_iinc (v := v4_7) (lv' := [(4, .int v4_7), (0, .ref (X.2.1 + n)), (1, .int v1), (2, .int v2), (3, .int v3)]) Γ.1.1 Γ.1.2.1 dX3_besides_36 hl (k := 4) rfl (by rw [e_v4_7]; rfl) (by decide) rfl (fun ls hl => ?_)
          clear e_v4_7
          refine lv_goto (tgt := 5) Γ.1.1 Γ.1.2.1 dX3_besides_39 (by decide) ?_
          exact ih v3 v4_7 _ _ _ hI (lv_sub hl [1, 2, 3, 4, 0] rfl) h
        · replace h := ite_neg c_6 h; clear c_6
          refine lv_iload_n Γ.1.1 Γ.1.2.1 dX3_besides_29 rfl (lv_at hl 3 rfl) ?_
          refine lv_iconst (v := (1 : Int32)) Γ.1.1 Γ.1.2.1 dX3_besides_30 (by decide) ?_
          refine lv_iload Γ.1.1 Γ.1.2.1 dX3_besides_31 (lv_at hl 4 rfl) ?_
          refine lv_ishl Γ.1.1 Γ.1.2.1 dX3_besides_33 ?_
          refine lv_ior Γ.1.1 Γ.1.2.1 dX3_besides_34 ?_
          refine lv_topi (fun v3_8 e_v3_8 => ?_)
          replace h := nm_at e_v3_8 h; clear e_v3_8
          refine lv_istore_n (lv' := [(3, .int v3_8), (0, .ref (X.2.1 + n)), (1, .int v1), (2, .int v2), (4, .int v4)]) Γ.1.1 Γ.1.2.1 dX3_besides_35 rfl hl (by decide) rfl (fun ls hl => ?_)
          obtain ⟨v4_9, e_v4_9, h⟩ := nm_some h
          refine lv_iinc (v := v4_9) (lv' := [(4, .int v4_9), (3, .int v3_8), (0, .ref (X.2.1 + n)), (1, .int v1), (2, .int v2)]) Γ.1.1 Γ.1.2.1 dX3_besides_36 hl (k := 4) rfl (by rw [e_v4_9]; rfl) (by decide) rfl (fun ls hl => ?_)
          clear e_v4_9
          refine lv_goto (tgt := 5) Γ.1.1 Γ.1.2.1 dX3_besides_39 (by decide) ?_
          exact ih v3_8 v4_9 _ _ _ hI (lv_sub hl [2, 3, 4, 1, 0] rfl) h
set_option maxRecDepth 20000 in
set_option maxHeartbeats 4000000 in
theorem S_X3_besides (l : Launch) (X : GX) (σ : GM) (n : Nat) (hn : sh n = (3, 0)) (v1 : Int32) (v2 : Int32) (x : Int32) (h : f_X3_besides σ n v1 v2 = some x) : gMet l yX3_besides cX3_besides 5 (some .int) ({ frames := 1, cells := 0, slots := 0, locals := 23 } : Room) X σ [.ref (X.2.1 + n), .int v1, .int v2] (gQi X σ x) := by
  unfold f_X3_besides at h
  refine gMet_of (lv := [(0, .ref (X.2.1 + n)), (1, .int v1), (2, .int v2)]) (by decide) rfl (Nat.le_of_ble_eq_true rfl) rfl (fun p e s m below meth c H ls Γ hI hl => ?_)
  refine lv_iconst (v := (0 : Int32)) Γ.1.1 Γ.1.2.1 dX3_besides_0 (by decide) ?_
  refine lv_istore_n (lv' := [(3, .int (0 : Int32)), (0, .ref (X.2.1 + n)), (1, .int v1), (2, .int v2)]) Γ.1.1 Γ.1.2.1 dX3_besides_1 rfl hl (by decide) rfl (fun ls hl => ?_)
  refine lv_iconst (v := (0 : Int32)) Γ.1.1 Γ.1.2.1 dX3_besides_2 (by decide) ?_
  refine lv_istore (lv' := [(4, .int (0 : Int32)), (3, .int (0 : Int32)), (0, .ref (X.2.1 + n)), (1, .int v1), (2, .int v2)]) Γ.1.1 Γ.1.2.1 dX3_besides_3 hl (by decide) rfl (fun ls hl => ?_)
  exact s_X3_besides_L5 σ n hn x Γ v1 v2 _ (0 : Int32) (0 : Int32) _ _ _ hI (lv_sub hl [2, 3, 4, 1, 0] rfl) h
set_option maxRecDepth 20000 in
set_option maxHeartbeats 4000000 in
theorem s_X3_endsIn_L10 {p : Program} {l : Launch} {e : Env} {s : State} {m : MethodId} {args : Array Value} {below : List Frame} {meth : Method} {c : Code} {X : GX} (σ : GM) (n : Nat) (hn : sh n = (3, 0)) (x : Int32) (Γ : gC X p m meth c cX3_endsIn 5 s args RX3 (some .int)) (v1 : Int32) (v2 : Int32) :
    ∀ (k : Nat) (v3 : Int32) (v4 : Int32) (H : Heap) (locs : List Loc) (ls : Array Slot), gI X σ s H locs → lv_has ls 5 [(0, .ref (X.2.1 + n)), (1, .int v1), (2, .int v2), (3, .int v3), (4, .int v4)] → f_X3_endsIn_L10 σ n v1 v2 k v3 v4 = some x →
    W p l e ({ frames := 1, cells := 0, slots := 0, locals := 23 } : Room) s m args below meth c H locs 0 0 (MQ below (gQi X σ x) args s 0 0 (gA X)) (F0 m 10 ls []) := by
  intro k
  induction k with
  | zero =>
    intro v3 v4 H locs ls hI hl h
    exact absurd h (by simp [f_X3_endsIn_L10])
  | succ k ih =>
    intro v3 v4 H locs ls hI hl h
    unfold f_X3_endsIn_L10 at h
    refine lv_iload Γ.1.1 Γ.1.2.1 dX3_endsIn_10 (lv_at hl 4 rfl) ?_
    refine lv_bipush (v := (12 : Int32)) Γ.1.1 Γ.1.2.1 dX3_endsIn_12 (by decide) ?_
    refine lv_icmp_ge (tgt := 42) Γ.1.1 Γ.1.2.1 dX3_endsIn_14 (by decide) (fun c_3 => ?_) (fun c_3 => ?_)
    · replace h := ite_pos c_3 h; clear c_3
      refine lv_iload_n Γ.1.1 Γ.1.2.1 dX3_endsIn_42 rfl (lv_at hl 3 rfl) ?_
      exact g_iret Γ hI dX3_endsIn_43 rfl (Option.some.inj h)
    · replace h := ite_neg c_3 h; clear c_3
      refine lv_iload_n Γ.1.1 Γ.1.2.1 dX3_endsIn_17 rfl (lv_at hl 2 rfl) ?_
      refine lv_iload Γ.1.1 Γ.1.2.1 dX3_endsIn_18 (lv_at hl 4 rfl) ?_
      obtain ⟨r_4, hr_4, h⟩ := ob_some h
      refine g_ci Γ hI (g_runS (As := [.int v2, .int v4]) Γ hI (S_X3_holds l X σ v2 v4 r_4 hr_4) mf_X3_holds gw_9 rfl rfl ⟨Nat.le_of_ble_eq_true rfl, Nat.le_of_ble_eq_true rfl⟩ rfl hl.1 rfl (Nat.le_of_ble_eq_true rfl) dX3_endsIn_20 ⟨Nat.zero_le _, Nat.zero_le _⟩) (fun H locs hI => ?_)
      clear hr_4
      refine lv_if_eq (tgt := 36) Γ.1.1 Γ.1.2.1 dX3_endsIn_23 (by decide) (fun c_6 => ?_) (fun c_6 => ?_)
      · replace h := ite_pos c_6 h; clear c_6
        obtain ⟨v4_7, e_v4_7, h⟩ := nm_some h
        refine lv_iinc (v := v4_7) (lv' := [(4, .int v4_7), (0, .ref (X.2.1 + n)), (1, .int v1), (2, .int v2), (3, .int v3)]) Γ.1.1 Γ.1.2.1 dX3_endsIn_36 hl (k := 4) rfl (by rw [e_v4_7]; rfl) (by decide) rfl (fun ls hl => ?_)
        clear e_v4_7
        refine lv_goto (tgt := 10) Γ.1.1 Γ.1.2.1 dX3_endsIn_39 (by decide) ?_
        exact ih v3 v4_7 _ _ _ hI (lv_sub hl [1, 2, 3, 4, 0] rfl) h
      · replace h := ite_neg c_6 h; clear c_6
        refine lv_iload_n Γ.1.1 Γ.1.2.1 dX3_endsIn_26 rfl (lv_at hl 3 rfl) ?_
        refine lv_aload_n Γ.1.1 Γ.1.2.1 dX3_endsIn_27 rfl (lv_at hl 0 rfl) ?_
        refine lv_iload_n Γ.1.1 Γ.1.2.1 dX3_endsIn_28 rfl (lv_at hl 1 rfl) ?_
        refine lv_iload Γ.1.1 Γ.1.2.1 dX3_endsIn_29 (lv_at hl 4 rfl) ?_
        obtain ⟨r_8, hr_8, h⟩ := ob_some h
        refine g_ci Γ hI (g_runV (As := [.int v1, .int v4]) Γ hI (S_X3_linesOf l X σ n hn v1 v4 r_8 hr_8) mf_X3_linesOf (recv_X3 hn Γ hI) gw_11 rfl rfl ⟨Nat.le_of_ble_eq_true rfl, Nat.le_of_ble_eq_true rfl⟩ rfl hl.1 rfl (Nat.le_of_ble_eq_true rfl) dX3_endsIn_31 ⟨Nat.zero_le _, Nat.zero_le _⟩) (fun H locs hI => ?_)
        clear hr_8
        refine lv_iadd Γ.1.1 Γ.1.2.1 dX3_endsIn_34 ?_
        refine lv_topi (fun v3_10 e_v3_10 => ?_)
        replace h := nm_at e_v3_10 h; clear e_v3_10
        refine lv_istore_n (lv' := [(3, .int v3_10), (0, .ref (X.2.1 + n)), (1, .int v1), (2, .int v2), (4, .int v4)]) Γ.1.1 Γ.1.2.1 dX3_endsIn_35 rfl hl (by decide) rfl (fun ls hl => ?_)
        obtain ⟨v4_11, e_v4_11, h⟩ := nm_some h
        refine lv_iinc (v := v4_11) (lv' := [(4, .int v4_11), (3, .int v3_10), (0, .ref (X.2.1 + n)), (1, .int v1), (2, .int v2)]) Γ.1.1 Γ.1.2.1 dX3_endsIn_36 hl (k := 4) rfl (by rw [e_v4_11]; rfl) (by decide) rfl (fun ls hl => ?_)
        clear e_v4_11
        refine lv_goto (tgt := 10) Γ.1.1 Γ.1.2.1 dX3_endsIn_39 (by decide) ?_
        exact ih v3_10 v4_11 _ _ _ hI (lv_sub hl [2, 3, 4, 1, 0] rfl) h
set_option maxRecDepth 20000 in
set_option maxHeartbeats 4000000 in
theorem S_X3_endsIn (l : Launch) (X : GX) (σ : GM) (n : Nat) (hn : sh n = (3, 0)) (v1 : Int32) (v2 : Int32) (x : Int32) (h : f_X3_endsIn σ n v1 v2 = some x) : gMet l yX3_endsIn cX3_endsIn 5 (some .int) ({ frames := 1, cells := 0, slots := 0, locals := 23 } : Room) X σ [.ref (X.2.1 + n), .int v1, .int v2] (gQi X σ x) := by
  unfold f_X3_endsIn at h
  refine gMet_of (lv := [(0, .ref (X.2.1 + n)), (1, .int v1), (2, .int v2)]) (by decide) rfl (Nat.le_of_ble_eq_true rfl) rfl (fun p e s m below meth c H ls Γ hI hl => ?_)
  refine lv_aload_n Γ.1.1 Γ.1.2.1 dX3_endsIn_0 rfl (lv_at hl 0 rfl) ?_
  refine lv_iload_n Γ.1.1 Γ.1.2.1 dX3_endsIn_1 rfl (lv_at hl 1 rfl) ?_
  refine lv_iload_n Γ.1.1 Γ.1.2.1 dX3_endsIn_2 rfl (lv_at hl 1 rfl) ?_
  obtain ⟨r_1, hr_1, h⟩ := ob_some h
  refine g_ci Γ hI (g_runV (As := [.int v1, .int v1]) Γ hI (S_X3_linesOf l X σ n hn v1 v1 r_1 hr_1) mf_X3_linesOf (recv_X3 hn Γ hI) gw_11 rfl rfl ⟨Nat.le_of_ble_eq_true rfl, Nat.le_of_ble_eq_true rfl⟩ rfl hl.1 rfl (Nat.le_of_ble_eq_true rfl) dX3_endsIn_3 ⟨Nat.zero_le _, Nat.zero_le _⟩) (fun H locs hI => ?_)
  clear hr_1
  refine lv_istore_n (lv' := [(3, .int r_1), (0, .ref (X.2.1 + n)), (1, .int v1), (2, .int v2)]) Γ.1.1 Γ.1.2.1 dX3_endsIn_6 rfl hl (by decide) rfl (fun ls hl => ?_)
  refine lv_iconst (v := (0 : Int32)) Γ.1.1 Γ.1.2.1 dX3_endsIn_7 (by decide) ?_
  refine lv_istore (lv' := [(4, .int (0 : Int32)), (3, .int r_1), (0, .ref (X.2.1 + n)), (1, .int v1), (2, .int v2)]) Γ.1.1 Γ.1.2.1 dX3_endsIn_8 hl (by decide) rfl (fun ls hl => ?_)
  exact s_X3_endsIn_L10 σ n hn x Γ v1 v2 _ r_1 (0 : Int32) _ _ _ hI (lv_sub hl [2, 3, 4, 1, 0] rfl) h
set_option maxRecDepth 20000 in
set_option maxHeartbeats 4000000 in
theorem s_X3_linesIn_L4 {p : Program} {l : Launch} {e : Env} {s : State} {m : MethodId} {args : Array Value} {below : List Frame} {meth : Method} {c : Code} {X : GX} (σ : GM) (n : Nat) (hn : sh n = (3, 0)) (x : Int32) (Γ : gC X p m meth c cX3_linesIn 4 s args RX3 (some .int)) (v1 : Int32) :
    ∀ (k : Nat) (v2 : Int32) (v3 : Int32) (H : Heap) (locs : List Loc) (ls : Array Slot), gI X σ s H locs → lv_has ls 4 [(0, .ref (X.2.1 + n)), (1, .int v1), (2, .int v2), (3, .int v3)] → f_X3_linesIn_L4 σ n v1 k v2 v3 = some x →
    W p l e ({ frames := 2, cells := 0, slots := 0, locals := 47 } : Room) s m args below meth c H locs 0 0 (MQ below (gQi X σ x) args s 0 0 (gA X)) (F0 m 4 ls []) := by
  intro k
  induction k with
  | zero =>
    intro v2 v3 H locs ls hI hl h
    exact absurd h (by simp [f_X3_linesIn_L4])
  | succ k ih =>
    intro v2 v3 H locs ls hI hl h
    unfold f_X3_linesIn_L4 at h
    refine lv_iload_n Γ.1.1 Γ.1.2.1 dX3_linesIn_4 rfl (lv_at hl 3 rfl) ?_
    refine lv_bipush (v := (12 : Int32)) Γ.1.1 Γ.1.2.1 dX3_linesIn_5 (by decide) ?_
    refine lv_icmp_ge (tgt := 33) Γ.1.1 Γ.1.2.1 dX3_linesIn_7 (by decide) (fun c_1 => ?_) (fun c_1 => ?_)
    · replace h := ite_pos c_1 h; clear c_1
      refine lv_iload_n Γ.1.1 Γ.1.2.1 dX3_linesIn_33 rfl (lv_at hl 2 rfl) ?_
      refine lv_iconst (v := (2 : Int32)) Γ.1.1 Γ.1.2.1 dX3_linesIn_34 (by decide) ?_
      obtain ⟨hz_2, h⟩ := nz_some h
      refine lv_idiv Γ.1.1 Γ.1.2.1 dX3_linesIn_35 hz_2 ?_
      exact g_iret Γ hI dX3_linesIn_36 rfl (Option.some.inj h)
    · replace h := ite_neg c_1 h; clear c_1
      refine lv_iload_n Γ.1.1 Γ.1.2.1 dX3_linesIn_10 rfl (lv_at hl 1 rfl) ?_
      refine lv_iload_n Γ.1.1 Γ.1.2.1 dX3_linesIn_11 rfl (lv_at hl 3 rfl) ?_
      obtain ⟨r_3, hr_3, h⟩ := ob_some h
      refine g_ci Γ hI (g_runS (As := [.int v1, .int v3]) Γ hI (S_X3_holds l X σ v1 v3 r_3 hr_3) mf_X3_holds gw_9 rfl rfl ⟨Nat.le_of_ble_eq_true rfl, Nat.le_of_ble_eq_true rfl⟩ rfl hl.1 rfl (Nat.le_of_ble_eq_true rfl) dX3_linesIn_12 ⟨Nat.zero_le _, Nat.zero_le _⟩) (fun H locs hI => ?_)
      clear hr_3
      refine lv_if_eq (tgt := 27) Γ.1.1 Γ.1.2.1 dX3_linesIn_15 (by decide) (fun c_5 => ?_) (fun c_5 => ?_)
      · replace h := ite_pos c_5 h; clear c_5
        obtain ⟨v3_6, e_v3_6, h⟩ := nm_some h
        refine lv_iinc (v := v3_6) (lv' := [(3, .int v3_6), (0, .ref (X.2.1 + n)), (1, .int v1), (2, .int v2)]) Γ.1.1 Γ.1.2.1 dX3_linesIn_27 hl (k := 3) rfl (by rw [e_v3_6]; rfl) (by decide) rfl (fun ls hl => ?_)
        clear e_v3_6
        refine lv_goto (tgt := 4) Γ.1.1 Γ.1.2.1 dX3_linesIn_30 (by decide) ?_
        exact ih v2 v3_6 _ _ _ hI (lv_sub hl [1, 2, 3, 0] rfl) h
      · replace h := ite_neg c_5 h; clear c_5
        refine lv_iload_n Γ.1.1 Γ.1.2.1 dX3_linesIn_18 rfl (lv_at hl 2 rfl) ?_
        refine lv_aload_n Γ.1.1 Γ.1.2.1 dX3_linesIn_19 rfl (lv_at hl 0 rfl) ?_
        refine lv_iload_n Γ.1.1 Γ.1.2.1 dX3_linesIn_20 rfl (lv_at hl 3 rfl) ?_
        refine lv_iload_n Γ.1.1 Γ.1.2.1 dX3_linesIn_21 rfl (lv_at hl 1 rfl) ?_
        obtain ⟨r_7, hr_7, h⟩ := ob_some h
        refine g_ci Γ hI (g_runV (As := [.int v3, .int v1]) Γ hI (S_X3_endsIn l X σ n hn v3 v1 r_7 hr_7) mf_X3_endsIn (recv_X3 hn Γ hI) gw_12 rfl rfl ⟨Nat.le_of_ble_eq_true rfl, Nat.le_of_ble_eq_true rfl⟩ rfl hl.1 rfl (Nat.le_of_ble_eq_true rfl) dX3_linesIn_22 ⟨Nat.zero_le _, Nat.zero_le _⟩) (fun H locs hI => ?_)
        clear hr_7
        refine lv_iadd Γ.1.1 Γ.1.2.1 dX3_linesIn_25 ?_
        refine lv_topi (fun v2_9 e_v2_9 => ?_)
        replace h := nm_at e_v2_9 h; clear e_v2_9
        refine lv_istore_n (lv' := [(2, .int v2_9), (0, .ref (X.2.1 + n)), (1, .int v1), (3, .int v3)]) Γ.1.1 Γ.1.2.1 dX3_linesIn_26 rfl hl (by decide) rfl (fun ls hl => ?_)
        obtain ⟨v3_10, e_v3_10, h⟩ := nm_some h
        refine lv_iinc (v := v3_10) (lv' := [(3, .int v3_10), (2, .int v2_9), (0, .ref (X.2.1 + n)), (1, .int v1)]) Γ.1.1 Γ.1.2.1 dX3_linesIn_27 hl (k := 3) rfl (by rw [e_v3_10]; rfl) (by decide) rfl (fun ls hl => ?_)
        clear e_v3_10
        refine lv_goto (tgt := 4) Γ.1.1 Γ.1.2.1 dX3_linesIn_30 (by decide) ?_
        exact ih v2_9 v3_10 _ _ _ hI (lv_sub hl [2, 3, 1, 0] rfl) h
set_option maxRecDepth 20000 in
set_option maxHeartbeats 4000000 in
theorem S_X3_linesIn (l : Launch) (X : GX) (σ : GM) (n : Nat) (hn : sh n = (3, 0)) (v1 : Int32) (x : Int32) (h : f_X3_linesIn σ n v1 = some x) : gMet l yX3_linesIn cX3_linesIn 4 (some .int) ({ frames := 2, cells := 0, slots := 0, locals := 47 } : Room) X σ [.ref (X.2.1 + n), .int v1] (gQi X σ x) := by
  unfold f_X3_linesIn at h
  refine gMet_of (lv := [(0, .ref (X.2.1 + n)), (1, .int v1)]) (by decide) rfl (Nat.le_of_ble_eq_true rfl) rfl (fun p e s m below meth c H ls Γ hI hl => ?_)
  refine lv_iconst (v := (0 : Int32)) Γ.1.1 Γ.1.2.1 dX3_linesIn_0 (by decide) ?_
  refine lv_istore_n (lv' := [(2, .int (0 : Int32)), (0, .ref (X.2.1 + n)), (1, .int v1)]) Γ.1.1 Γ.1.2.1 dX3_linesIn_1 rfl hl (by decide) rfl (fun ls hl => ?_)
  refine lv_iconst (v := (0 : Int32)) Γ.1.1 Γ.1.2.1 dX3_linesIn_2 (by decide) ?_
  refine lv_istore_n (lv' := [(3, .int (0 : Int32)), (2, .int (0 : Int32)), (0, .ref (X.2.1 + n)), (1, .int v1)]) Γ.1.1 Γ.1.2.1 dX3_linesIn_3 rfl hl (by decide) rfl (fun ls hl => ?_)
  exact s_X3_linesIn_L4 σ n hn x Γ v1 _ (0 : Int32) (0 : Int32) _ _ _ hI (lv_sub hl [2, 3, 1, 0] rfl) h
set_option maxRecDepth 20000 in
set_option maxHeartbeats 4000000 in
theorem S_X8_lowest (l : Launch) (X : GX) (σ : GM) (v0 : Int32) (x : Int32) (h : f_X8_lowest σ v0 = some x) : gMet l yX8_lowest cX8_lowest 1 (some .int) ({ frames := 1, cells := 0, slots := 0, locals := 20 } : Room) X σ [.int v0] (gQi X σ x) := by
  unfold f_X8_lowest at h
  refine gMet_of (lv := [(0, .int v0)]) (by decide) rfl (Nat.le_of_ble_eq_true rfl) rfl (fun p e s m below meth c H ls Γ hI hl => ?_)
  refine lv_iload_n Γ.1.1 Γ.1.2.1 dX8_lowest_0 rfl (lv_at hl 0 rfl) ?_
  refine lv_if_ne (tgt := 8) Γ.1.1 Γ.1.2.1 dX8_lowest_1 (by decide) (fun c_1 => ?_) (fun c_1 => ?_)
  · replace h := ite_neg c_1 h; clear c_1
    refine lv_iload_n Γ.1.1 Γ.1.2.1 dX8_lowest_8 rfl (lv_at hl 0 rfl) ?_
    refine lv_iload_n Γ.1.1 Γ.1.2.1 dX8_lowest_9 rfl (lv_at hl 0 rfl) ?_
    refine lv_ineg Γ.1.1 Γ.1.2.1 dX8_lowest_10 ?_
    refine lv_iand Γ.1.1 Γ.1.2.1 dX8_lowest_11 ?_
    refine lv_iconst (v := (1 : Int32)) Γ.1.1 Γ.1.2.1 dX8_lowest_12 (by decide) ?_
    refine lv_isub Γ.1.1 Γ.1.2.1 dX8_lowest_13 ?_
    obtain ⟨r_2, hr_2, h⟩ := ob_some h
    refine g_ci Γ hI (g_runS (As := [.int ((v0 &&& (-v0)) - (1 : Int32))]) Γ hI (S_J6_bitCount_0f7a4 l X σ ((v0 &&& (-v0)) - (1 : Int32)) r_2 hr_2) mf_J6_bitCount_0f7a4 gw_13 rfl rfl ⟨Nat.le_of_ble_eq_true rfl, Nat.le_of_ble_eq_true rfl⟩ rfl hl.1 rfl (Nat.le_of_ble_eq_true rfl) dX8_lowest_14 ⟨Nat.zero_le _, Nat.zero_le _⟩) (fun H locs hI => ?_)
    clear hr_2
    exact g_iret Γ hI dX8_lowest_17 rfl (Option.some.inj h)
  · replace h := ite_pos c_1 h; clear c_1
    refine lv_iconst (v := (-1 : Int32)) Γ.1.1 Γ.1.2.1 dX8_lowest_4 (by decide) ?_
    refine lv_goto (tgt := 17) Γ.1.1 Γ.1.2.1 dX8_lowest_5 (by decide) ?_
    exact g_iret Γ hI dX8_lowest_17 rfl (Option.some.inj h)
set_option maxRecDepth 20000 in
set_option maxHeartbeats 4000000 in
theorem s_X3_reachedFrom_L46 {p : Program} {l : Launch} {e : Env} {s : State} {m : MethodId} {args : Array Value} {below : List Frame} {meth : Method} {c : Code} {X : GX} (σ : GM) (n : Nat) (hn : sh n = (3, 0)) (x : Int32) (Γ : gC X p m meth c cX3_reachedFrom 8 s args RX3 (some .int)) (k10 : Int32 → Int32 → Int32 → Option Int32) (hk10 : ∀ (v3 : Int32) (v4 : Int32) (v5 : Int32) (H : Heap) (locs : List Loc) (ls : Array Slot), gI X σ s H locs → lv_has ls 8 [(0, .ref (X.2.1 + n)), (2, .int v2), (3, .int v3), (4, .int v4), (5, .int v5)] → k10 v3 v4 v5 = some x → W p l e ({ frames := 2, cells := 0, slots := 0, locals := 40 } : Room) s m args below meth c H locs 0 0 (MQ below (gQi X σ x) args s 0 0 (gA X)) (F0 m 10 ls [])) (v2 : Int32) (v4 : Int32) (v5 : Int32) (v6 : Int32) :
    ∀ (k : Nat) (v3 : Int32) (v7 : Int32) (H : Heap) (locs : List Loc) (ls : Array Slot), gI X σ s H locs → lv_has ls 8 [(0, .ref (X.2.1 + n)), (2, .int v2), (3, .int v3), (4, .int v4), (5, .int v5), (6, .int v6), (7, .int v7)] → f_X3_reachedFrom_L46 σ n k10 v2 v4 v5 v6 k v3 v7 = some x →
    W p l e ({ frames := 2, cells := 0, slots := 0, locals := 40 } : Room) s m args below meth c H locs 0 0 (MQ below (gQi X σ x) args s 0 0 (gA X)) (F0 m 46 ls []) := by
  intro k
  induction k with
  | zero =>
    intro v3 v7 H locs ls hI hl h
    exact absurd h (by simp [f_X3_reachedFrom_L46])
  | succ k ih =>
    intro v3 v7 H locs ls hI hl h
    unfold f_X3_reachedFrom_L46 at h
    refine lv_iload Γ.1.1 Γ.1.2.1 dX3_reachedFrom_46 (lv_at hl 6 rfl) ?_
    refine lv_bipush (v := (12 : Int32)) Γ.1.1 Γ.1.2.1 dX3_reachedFrom_48 (by decide) ?_
    refine lv_icmp_ge (tgt := 79) Γ.1.1 Γ.1.2.1 dX3_reachedFrom_50 (by decide) (fun c_7 => ?_) (fun c_7 => ?_)
    · replace h := ite_pos c_7 h; clear c_7
      obtain ⟨v5_8, e_v5_8, h⟩ := nm_some h
      refine lv_iinc (v := v5_8) (lv' := [(5, .int v5_8), (0, .ref (X.2.1 + n)), (2, .int v2), (3, .int v3), (4, .int v4), (6, .int v6), (7, .int v7)]) Γ.1.1 Γ.1.2.1 dX3_reachedFrom_79 hl (k := 4) rfl (by rw [e_v5_8]; rfl) (by decide) rfl (fun ls hl => ?_)
      clear e_v5_8
      refine lv_goto (tgt := 10) Γ.1.1 Γ.1.2.1 dX3_reachedFrom_82 (by decide) ?_
      exact hk10 v3 v4 v5_8 _ _ _ hI (lv_sub hl [1, 2, 3, 4, 0] rfl) h
    · replace h := ite_neg c_7 h; clear c_7
      refine lv_aload_n Γ.1.1 Γ.1.2.1 dX3_reachedFrom_53 rfl (lv_at hl 0 rfl) ?_
      refine lv_iload Γ.1.1 Γ.1.2.1 dX3_reachedFrom_54 (lv_at hl 5 rfl) ?_
      refine lv_iload Γ.1.1 Γ.1.2.1 dX3_reachedFrom_56 (lv_at hl 6 rfl) ?_
      obtain ⟨r_9, hr_9, h⟩ := ob_some h
      refine g_ci Γ hI (g_runV (As := [.int v6, .int v7]) Γ hI (S_X3_linesOf l X σ n hn v6 v7 r_9 hr_9) mf_X3_linesOf (recv_X3 hn Γ hI) gw_11 rfl rfl ⟨Nat.le_of_ble_eq_true rfl, Nat.le_of_ble_eq_true rfl⟩ rfl hl.1 rfl (Nat.le_of_ble_eq_true rfl) dX3_reachedFrom_58 ⟨Nat.zero_le _, Nat.zero_le _⟩) (fun H locs hI => ?_)
      clear hr_9
      refine lv_if_le (tgt := 73) Γ.1.1 Γ.1.2.1 dX3_reachedFrom_61 (by decide) (fun c_11 => ?_) (fun c_11 => ?_)
      · replace h := ite_pos c_11 h; clear c_11
        obtain ⟨v7_12, e_v7_12, h⟩ := nm_some h
        refine lv_iinc (v := v7_12) (lv' := [(7, .int v7_12), (0, .ref (X.2.1 + n)), (2, .int v2), (3, .int v3), (4, .int v4), (5, .int v5), (6, .int v6)]) Γ.1.1 Γ.1.2.1 dX3_reachedFrom_73 hl (k := 6) rfl (by rw [e_v7_12]; rfl) (by decide) rfl (fun ls hl => ?_)
        clear e_v7_12
        refine lv_goto (tgt := 46) Γ.1.1 Γ.1.2.1 dX3_reachedFrom_76 (by decide) ?_
        exact ih v3 v7_12 _ _ _ hI (lv_sub hl [1, 2, 3, 4, 5, 6, 0] rfl) h
      · replace h := ite_neg c_11 h; clear c_11
        refine lv_iload_n Γ.1.1 Γ.1.2.1 dX3_reachedFrom_64 rfl (lv_at hl 2 rfl) ?_
        refine lv_iconst (v := (1 : Int32)) Γ.1.1 Γ.1.2.1 dX3_reachedFrom_65 (by decide) ?_
        refine lv_iload Γ.1.1 Γ.1.2.1 dX3_reachedFrom_66 (lv_at hl 6 rfl) ?_
        refine lv_ishl Γ.1.1 Γ.1.2.1 dX3_reachedFrom_68 ?_
        refine lv_iload_n Γ.1.1 Γ.1.2.1 dX3_reachedFrom_69 rfl (lv_at hl 1 rfl) ?_
        refine lv_iand Γ.1.1 Γ.1.2.1 dX3_reachedFrom_70 ?_
        refine lv_ior Γ.1.1 Γ.1.2.1 dX3_reachedFrom_71 ?_
        refine lv_topi (fun v3_13 e_v3_13 => ?_)
        replace h := nm_at e_v3_13 h; clear e_v3_13
        refine lv_istore_n (lv' := [(3, .int v3_13), (0, .ref (X.2.1 + n)), (2, .int v2), (4, .int v4), (5, .int v5), (6, .int v6), (7, .int v7)]) Γ.1.1 Γ.1.2.1 dX3_reachedFrom_72 rfl hl (by decide) rfl (fun ls hl => ?_)
        obtain ⟨v7_14, e_v7_14, h⟩ := nm_some h
        refine lv_iinc (v := v7_14) (lv' := [(7, .int v7_14), (3, .int v3_13), (0, .ref (X.2.1 + n)), (2, .int v2), (4, .int v4), (5, .int v5), (6, .int v6)]) Γ.1.1 Γ.1.2.1 dX3_reachedFrom_73 hl (k := 6) rfl (by rw [e_v7_14]; rfl) (by decide) rfl (fun ls hl => ?_)
        clear e_v7_14
        refine lv_goto (tgt := 46) Γ.1.1 Γ.1.2.1 dX3_reachedFrom_76 (by decide) ?_
        exact ih v3_13 v7_14 _ _ _ hI (lv_sub hl [2, 3, 1, 4, 5, 6, 0] rfl) h
set_option maxRecDepth 20000 in
set_option maxHeartbeats 4000000 in
theorem s_X3_reachedFrom_L10 {p : Program} {l : Launch} {e : Env} {s : State} {m : MethodId} {args : Array Value} {below : List Frame} {meth : Method} {c : Code} {X : GX} (σ : GM) (n : Nat) (hn : sh n = (3, 0)) (x : Int32) (Γ : gC X p m meth c cX3_reachedFrom 8 s args RX3 (some .int)) (v2 : Int32) :
    ∀ (k : Nat) (v3 : Int32) (v4 : Int32) (v5 : Int32) (H : Heap) (locs : List Loc) (ls : Array Slot), gI X σ s H locs → lv_has ls 8 [(0, .ref (X.2.1 + n)), (2, .int v2), (3, .int v3), (4, .int v4), (5, .int v5)] → f_X3_reachedFrom_L10 σ n v2 k v3 v4 v5 = some x →
    W p l e ({ frames := 2, cells := 0, slots := 0, locals := 40 } : Room) s m args below meth c H locs 0 0 (MQ below (gQi X σ x) args s 0 0 (gA X)) (F0 m 10 ls []) := by
  intro k
  induction k with
  | zero =>
    intro v3 v4 v5 H locs ls hI hl h
    exact absurd h (by simp [f_X3_reachedFrom_L10])
  | succ k ih =>
    intro v3 v4 v5 H locs ls hI hl h
    unfold f_X3_reachedFrom_L10 at h
    refine lv_iload Γ.1.1 Γ.1.2.1 dX3_reachedFrom_10 (lv_at hl 4 rfl) ?_
    refine lv_bipush (v := (12 : Int32)) Γ.1.1 Γ.1.2.1 dX3_reachedFrom_12 (by decide) ?_
    refine lv_icmp_ge (tgt := 85) Γ.1.1 Γ.1.2.1 dX3_reachedFrom_14 (by decide) (fun c_2 => ?_) (fun c_2 => ?_)
    · replace h := ite_pos c_2 h; clear c_2
      refine lv_iload_n Γ.1.1 Γ.1.2.1 dX3_reachedFrom_85 rfl (lv_at hl 2 rfl) ?_
      exact g_iret Γ hI dX3_reachedFrom_86 rfl (Option.some.inj h)
    · replace h := ite_neg c_2 h; clear c_2
      refine lv_iload_n Γ.1.1 Γ.1.2.1 dX3_reachedFrom_17 rfl (lv_at hl 2 rfl) ?_
      refine lv_iload Γ.1.1 Γ.1.2.1 dX3_reachedFrom_18 (lv_at hl 3 rfl) ?_
      refine lv_icmp_eq (tgt := 85) Γ.1.1 Γ.1.2.1 dX3_reachedFrom_20 (by decide) (fun c_3 => ?_) (fun c_3 => ?_)
      · replace h := ite_pos c_3 h; clear c_3
        refine lv_iload_n Γ.1.1 Γ.1.2.1 dX3_reachedFrom_85 rfl (lv_at hl 2 rfl) ?_
        exact g_iret Γ hI dX3_reachedFrom_86 rfl (Option.some.inj h)
      · replace h := ite_neg c_3 h; clear c_3
        refine lv_iload_n Γ.1.1 Γ.1.2.1 dX3_reachedFrom_23 rfl (lv_at hl 2 rfl) ?_
        refine lv_iload Γ.1.1 Γ.1.2.1 dX3_reachedFrom_24 (lv_at hl 3 rfl) ?_
        refine lv_iconst (v := (-1 : Int32)) Γ.1.1 Γ.1.2.1 dX3_reachedFrom_26 (by decide) ?_
        refine lv_ixor Γ.1.1 Γ.1.2.1 dX3_reachedFrom_27 ?_
        refine lv_iand Γ.1.1 Γ.1.2.1 dX3_reachedFrom_28 ?_
        obtain ⟨r_4, hr_4, h⟩ := ob_some h
        refine g_ci Γ hI (g_runS (As := [.int (v3 &&& (v4 ^^^ (-1 : Int32)))]) Γ hI (S_X8_lowest l X σ (v3 &&& (v4 ^^^ (-1 : Int32))) r_4 hr_4) mf_X8_lowest gw_14 rfl rfl ⟨Nat.le_of_ble_eq_true rfl, Nat.le_of_ble_eq_true rfl⟩ rfl hl.1 rfl (Nat.le_of_ble_eq_true rfl) dX3_reachedFrom_29 ⟨Nat.zero_le _, Nat.zero_le _⟩) (fun H locs hI => ?_)
        clear hr_4
        refine lv_istore (lv' := [(6, .int r_4), (0, .ref (X.2.1 + n)), (2, .int v2), (3, .int v3), (4, .int v4), (5, .int v5)]) Γ.1.1 Γ.1.2.1 dX3_reachedFrom_32 hl (by decide) rfl (fun ls hl => ?_)
        refine lv_iload Γ.1.1 Γ.1.2.1 dX3_reachedFrom_34 (lv_at hl 4 rfl) ?_
        refine lv_iconst (v := (1 : Int32)) Γ.1.1 Γ.1.2.1 dX3_reachedFrom_36 (by decide) ?_
        refine lv_iload Γ.1.1 Γ.1.2.1 dX3_reachedFrom_37 (lv_at hl 0 rfl) ?_
        refine lv_ishl Γ.1.1 Γ.1.2.1 dX3_reachedFrom_39 ?_
        refine lv_ior Γ.1.1 Γ.1.2.1 dX3_reachedFrom_40 ?_
        refine lv_topi (fun v4_6 e_v4_6 => ?_)
        replace h := nm_at e_v4_6 h; clear e_v4_6
        refine lv_istore (lv' := [(4, .int v4_6), (6, .int r_4), (0, .ref (X.2.1 + n)), (2, .int v2), (3, .int v3), (5, .int v5)]) Γ.1.1 Γ.1.2.1 dX3_reachedFrom_41 hl (by decide) rfl (fun ls hl => ?_)
        refine lv_iconst (v := (0 : Int32)) Γ.1.1 Γ.1.2.1 dX3_reachedFrom_43 (by decide) ?_
        refine lv_istore (lv' := [(7, .int (0 : Int32)), (4, .int v4_6), (6, .int r_4), (0, .ref (X.2.1 + n)), (2, .int v2), (3, .int v3), (5, .int v5)]) Γ.1.1 Γ.1.2.1 dX3_reachedFrom_44 hl (by decide) rfl (fun ls hl => ?_)
        exact s_X3_reachedFrom_L46 σ n hn x Γ _ ih v2 v4_6 v5 r_4 _ v3 (0 : Int32) _ _ _ hI (lv_sub hl [3, 4, 5, 1, 6, 2, 0] rfl) h
