/-! WALKS 1 (by gen.py) -/
set_option maxRecDepth 20000 in
set_option maxHeartbeats 4000000 in
theorem S_J6_bitCount_0f7a4 (l : Launch) (X : GX) (σ : GM) (v0 : Int32) (x : Int32) (h : f_J6_bitCount_0f7a4 σ v0 = some x) : gMet l yJ6_bitCount_0f7a4 cJ6_bitCount_0f7a4 1 (some .int) ({ frames := 0, cells := 0, slots := 0, locals := 0 } : Room) X σ [.int v0] (gQi X σ x) := by
  unfold f_J6_bitCount_0f7a4 at h
  refine gMet_of (lv := [(0, .int v0)]) (by decide) rfl (Nat.le_of_ble_eq_true rfl) rfl (fun p e s m below meth c H ls Γ hI hl => ?_)
  refine lv_iload_n Γ.1.1 Γ.1.2.1 dJ6_bitCount_0f7a4_0 rfl (lv_at hl 0 rfl) ?_
  refine lv_iload_n Γ.1.1 Γ.1.2.1 dJ6_bitCount_0f7a4_1 rfl (lv_at hl 0 rfl) ?_
  refine lv_iconst (v := (1 : Int32)) Γ.1.1 Γ.1.2.1 dJ6_bitCount_0f7a4_2 (by decide) ?_
  refine lv_iushr (v := (jushr v0 (1 : Int32))) Γ.1.1 Γ.1.2.1 dJ6_bitCount_0f7a4_3 rfl ?_
  refine lv_ldcw (v := (1431655765 : Int32)) Γ.1.1 Γ.1.2.1 Γ.1.2.2.2.1 (Γ.1.2.2.2.2 _ gw_0) dJ6_bitCount_0f7a4_4 ?_
  refine lv_iand Γ.1.1 Γ.1.2.1 dJ6_bitCount_0f7a4_7 ?_
  refine lv_isub Γ.1.1 Γ.1.2.1 dJ6_bitCount_0f7a4_8 ?_
  refine lv_topi (fun v0_1 e_v0_1 => ?_)
  replace h := nm_at e_v0_1 h; clear e_v0_1
  refine lv_istore_n (lv' := [(0, .int v0_1)]) Γ.1.1 Γ.1.2.1 dJ6_bitCount_0f7a4_9 rfl hl (by decide) rfl (fun ls hl => ?_)
  refine lv_iload_n Γ.1.1 Γ.1.2.1 dJ6_bitCount_0f7a4_10 rfl (lv_at hl 0 rfl) ?_
  refine lv_ldcw (v := (858993459 : Int32)) Γ.1.1 Γ.1.2.1 Γ.1.2.2.2.1 (Γ.1.2.2.2.2 _ gw_1) dJ6_bitCount_0f7a4_11 ?_
  refine lv_iand Γ.1.1 Γ.1.2.1 dJ6_bitCount_0f7a4_14 ?_
  refine lv_iload_n Γ.1.1 Γ.1.2.1 dJ6_bitCount_0f7a4_15 rfl (lv_at hl 0 rfl) ?_
  refine lv_iconst (v := (2 : Int32)) Γ.1.1 Γ.1.2.1 dJ6_bitCount_0f7a4_16 (by decide) ?_
  refine lv_iushr (v := (jushr v0_1 (2 : Int32))) Γ.1.1 Γ.1.2.1 dJ6_bitCount_0f7a4_17 rfl ?_
  refine lv_ldcw (v := (858993459 : Int32)) Γ.1.1 Γ.1.2.1 Γ.1.2.2.2.1 (Γ.1.2.2.2.2 _ gw_1) dJ6_bitCount_0f7a4_18 ?_
  refine lv_iand Γ.1.1 Γ.1.2.1 dJ6_bitCount_0f7a4_21 ?_
  refine lv_iadd Γ.1.1 Γ.1.2.1 dJ6_bitCount_0f7a4_22 ?_
  refine lv_topi (fun v0_2 e_v0_2 => ?_)
  replace h := nm_at e_v0_2 h; clear e_v0_2
  refine lv_istore_n (lv' := [(0, .int v0_2)]) Γ.1.1 Γ.1.2.1 dJ6_bitCount_0f7a4_23 rfl hl (by decide) rfl (fun ls hl => ?_)
  refine lv_iload_n Γ.1.1 Γ.1.2.1 dJ6_bitCount_0f7a4_24 rfl (lv_at hl 0 rfl) ?_
  refine lv_iload_n Γ.1.1 Γ.1.2.1 dJ6_bitCount_0f7a4_25 rfl (lv_at hl 0 rfl) ?_
  refine lv_iconst (v := (4 : Int32)) Γ.1.1 Γ.1.2.1 dJ6_bitCount_0f7a4_26 (by decide) ?_
  refine lv_iushr (v := (jushr v0_2 (4 : Int32))) Γ.1.1 Γ.1.2.1 dJ6_bitCount_0f7a4_27 rfl ?_
  refine lv_iadd Γ.1.1 Γ.1.2.1 dJ6_bitCount_0f7a4_28 ?_
  refine lv_ldcw (v := (252645135 : Int32)) Γ.1.1 Γ.1.2.1 Γ.1.2.2.2.1 (Γ.1.2.2.2.2 _ gw_2) dJ6_bitCount_0f7a4_29 ?_
  refine lv_iand Γ.1.1 Γ.1.2.1 dJ6_bitCount_0f7a4_32 ?_
  refine lv_topi (fun v0_3 e_v0_3 => ?_)
  replace h := nm_at e_v0_3 h; clear e_v0_3
  refine lv_istore_n (lv' := [(0, .int v0_3)]) Γ.1.1 Γ.1.2.1 dJ6_bitCount_0f7a4_33 rfl hl (by decide) rfl (fun ls hl => ?_)
  refine lv_iload_n Γ.1.1 Γ.1.2.1 dJ6_bitCount_0f7a4_34 rfl (lv_at hl 0 rfl) ?_
  refine lv_iload_n Γ.1.1 Γ.1.2.1 dJ6_bitCount_0f7a4_35 rfl (lv_at hl 0 rfl) ?_
  refine lv_bipush (v := (8 : Int32)) Γ.1.1 Γ.1.2.1 dJ6_bitCount_0f7a4_36 (by decide) ?_
  refine lv_iushr (v := (jushr v0_3 (8 : Int32))) Γ.1.1 Γ.1.2.1 dJ6_bitCount_0f7a4_38 rfl ?_
  refine lv_iadd Γ.1.1 Γ.1.2.1 dJ6_bitCount_0f7a4_39 ?_
  refine lv_topi (fun v0_4 e_v0_4 => ?_)
  replace h := nm_at e_v0_4 h; clear e_v0_4
  refine lv_istore_n (lv' := [(0, .int v0_4)]) Γ.1.1 Γ.1.2.1 dJ6_bitCount_0f7a4_40 rfl hl (by decide) rfl (fun ls hl => ?_)
  refine lv_iload_n Γ.1.1 Γ.1.2.1 dJ6_bitCount_0f7a4_41 rfl (lv_at hl 0 rfl) ?_
  refine lv_iload_n Γ.1.1 Γ.1.2.1 dJ6_bitCount_0f7a4_42 rfl (lv_at hl 0 rfl) ?_
  refine lv_bipush (v := (16 : Int32)) Γ.1.1 Γ.1.2.1 dJ6_bitCount_0f7a4_43 (by decide) ?_
  refine lv_iushr (v := (jushr v0_4 (16 : Int32))) Γ.1.1 Γ.1.2.1 dJ6_bitCount_0f7a4_45 rfl ?_
  refine lv_iadd Γ.1.1 Γ.1.2.1 dJ6_bitCount_0f7a4_46 ?_
  refine lv_topi (fun v0_5 e_v0_5 => ?_)
  replace h := nm_at e_v0_5 h; clear e_v0_5
  refine lv_istore_n (lv' := [(0, .int v0_5)]) Γ.1.1 Γ.1.2.1 dJ6_bitCount_0f7a4_47 rfl hl (by decide) rfl (fun ls hl => ?_)
  refine lv_iload_n Γ.1.1 Γ.1.2.1 dJ6_bitCount_0f7a4_48 rfl (lv_at hl 0 rfl) ?_
  refine lv_bipush (v := (63 : Int32)) Γ.1.1 Γ.1.2.1 dJ6_bitCount_0f7a4_49 (by decide) ?_
  refine lv_iand Γ.1.1 Γ.1.2.1 dJ6_bitCount_0f7a4_51 ?_
  exact g_iret Γ hI dJ6_bitCount_0f7a4_52 rfl (Option.some.inj h)
set_option maxRecDepth 20000 in
set_option maxHeartbeats 4000000 in
theorem s_X3_empty_L22 {p : Program} {l : Launch} {e : Env} {s : State} {m : MethodId} {args : Array Value} {below : List Frame} {meth : Method} {c : Code} {X : GX} (n : Nat) (hn : sh n = (3, 0)) (σr : GM) (Γ : gC X p m meth c cX3_empty 2 s args RX3 none) :
    ∀ (k : Nat) (σ : GM) (v1 : Int32) (H : Heap) (locs : List Loc) (ls : Array Slot), gI X σ s H locs → lv_has ls 2 [(0, .ref (X.2.1 + n)), (1, .int v1)] → f_X3_empty_L22 n k σ v1 = some σr →
    W p l e ({ frames := 0, cells := 0, slots := 0, locals := 0 } : Room) s m args below meth c H locs 0 0 (MQ below (gQv X σr) args s 0 0 (gA X)) (F0 m 22 ls []) := by
  intro k
  induction k with
  | zero =>
    intro σ v1 H locs ls hI hl h
    exact absurd h (by simp [f_X3_empty_L22])
  | succ k ih =>
    intro σ v1 H locs ls hI hl h
    unfold f_X3_empty_L22 at h
    refine lv_iload_n Γ.1.1 Γ.1.2.1 dX3_empty_22 rfl (lv_at hl 1 rfl) ?_
    refine lv_aload_n Γ.1.1 Γ.1.2.1 dX3_empty_23 rfl (lv_at hl 0 rfl) ?_
    refine get_X3_between hn Γ hI gw_7 dX3_empty_24 ?_
    refine g_alen Γ hI (shN1 hn).2 (by decide) (v := (144 : Int32)) (by decide) dX3_empty_27 ?_
    refine lv_icmp_ge (tgt := 44) Γ.1.1 Γ.1.2.1 dX3_empty_28 (by decide) (fun c_5 => ?_) (fun c_5 => ?_)
    · replace h := ite_pos c_5 h; clear c_5
      exact g_vret Γ hI dX3_empty_44 (Option.some.inj h)
    · replace h := ite_neg c_5 h; clear c_5
      refine lv_aload_n Γ.1.1 Γ.1.2.1 dX3_empty_31 rfl (lv_at hl 0 rfl) ?_
      refine get_X3_between hn Γ hI gw_7 dX3_empty_32 ?_
      refine lv_iload_n Γ.1.1 Γ.1.2.1 dX3_empty_35 rfl (lv_at hl 1 rfl) ?_
      refine lv_iconst (v := (0 : Int32)) Γ.1.1 Γ.1.2.1 dX3_empty_36 (by decide) ?_
      obtain ⟨hb_6, h⟩ := bnd_some h
      refine g_iast Γ hI (shN1 hn).2 hb_6 dX3_empty_37 (fun H locs hI => ?_)
      obtain ⟨σ_7, e_m_7, h⟩ := nm_some h
      rw [← e_m_7] at hI; clear e_m_7
      obtain ⟨v1_8, e_v1_8, h⟩ := nm_some h
      refine lv_iinc (v := v1_8) (lv' := [(1, .int v1_8), (0, .ref (X.2.1 + n))]) Γ.1.1 Γ.1.2.1 dX3_empty_38 hl (k := 1) rfl (by rw [e_v1_8]; rfl) (by decide) rfl (fun ls hl => ?_)
      clear e_v1_8
      refine lv_goto (tgt := 22) Γ.1.1 Γ.1.2.1 dX3_empty_41 (by decide) ?_
      exact ih σ_7 v1_8 _ _ _ hI (lv_sub hl [1, 0] rfl) h
set_option maxRecDepth 20000 in
set_option maxHeartbeats 4000000 in
theorem S_X3_empty (l : Launch) (X : GX) (σ : GM) (n : Nat) (hn : sh n = (3, 0)) (σr : GM) (h : f_X3_empty σ n = some σr) : gMet l yX3_empty cX3_empty 2 none ({ frames := 0, cells := 0, slots := 0, locals := 0 } : Room) X σ [.ref (X.2.1 + n)] (gQv X σr) := by
  unfold f_X3_empty at h
  refine gMet_of (lv := [(0, .ref (X.2.1 + n))]) (by decide) rfl (Nat.le_of_ble_eq_true rfl) rfl (fun p e s m below meth c H ls Γ hI hl => ?_)
  refine lv_aload_n Γ.1.1 Γ.1.2.1 dX3_empty_0 rfl (lv_at hl 0 rfl) ?_
  refine lv_iconst (v := (0 : Int32)) Γ.1.1 Γ.1.2.1 dX3_empty_1 (by decide) ?_
  refine put_X3_told hn Γ hI gw_3 dX3_empty_2 (fun H locs hI => ?_)
  obtain ⟨σ_1, e_m_1, h⟩ := nm_some h
  rw [← e_m_1] at hI; clear e_m_1
  refine lv_aload_n Γ.1.1 Γ.1.2.1 dX3_empty_5 rfl (lv_at hl 0 rfl) ?_
  refine lv_iconst (v := (0 : Int32)) Γ.1.1 Γ.1.2.1 dX3_empty_6 (by decide) ?_
  refine put_X3_there hn Γ hI gw_4 dX3_empty_7 (fun H locs hI => ?_)
  obtain ⟨σ_2, e_m_2, h⟩ := nm_some h
  rw [← e_m_2] at hI; clear e_m_2
  refine lv_aload_n Γ.1.1 Γ.1.2.1 dX3_empty_10 rfl (lv_at hl 0 rfl) ?_
  refine lv_iconst (v := (0 : Int32)) Γ.1.1 Γ.1.2.1 dX3_empty_11 (by decide) ?_
  refine put_X3_taken hn Γ hI gw_5 dX3_empty_12 (fun H locs hI => ?_)
  obtain ⟨σ_3, e_m_3, h⟩ := nm_some h
  rw [← e_m_3] at hI; clear e_m_3
  refine lv_aload_n Γ.1.1 Γ.1.2.1 dX3_empty_15 rfl (lv_at hl 0 rfl) ?_
  refine lv_iconst (v := (0 : Int32)) Γ.1.1 Γ.1.2.1 dX3_empty_16 (by decide) ?_
  refine put_X3_lineCount hn Γ hI gw_6 dX3_empty_17 (fun H locs hI => ?_)
  obtain ⟨σ_4, e_m_4, h⟩ := nm_some h
  rw [← e_m_4] at hI; clear e_m_4
  refine lv_iconst (v := (0 : Int32)) Γ.1.1 Γ.1.2.1 dX3_empty_20 (by decide) ?_
  refine lv_istore_n (lv' := [(1, .int (0 : Int32)), (0, .ref (X.2.1 + n))]) Γ.1.1 Γ.1.2.1 dX3_empty_21 rfl hl (by decide) rfl (fun ls hl => ?_)
  exact s_X3_empty_L22 n hn σr Γ _ σ_4 (0 : Int32) _ _ _ hI (lv_sub hl [1, 0] rfl) h
set_option maxRecDepth 20000 in
set_option maxHeartbeats 4000000 in
theorem s_X3_copyFrom_L72 {p : Program} {l : Launch} {e : Env} {s : State} {m : MethodId} {args : Array Value} {below : List Frame} {meth : Method} {c : Code} {X : GX} (n : Nat) (o : Nat) (hn : sh n = (3, 0)) (ho : sh o = (3, 0)) (σr : GM) (Γ : gC X p m meth c cX3_copyFrom 3 s args RX3 none) :
    ∀ (k : Nat) (σ : GM) (v2 : Int32) (H : Heap) (locs : List Loc) (ls : Array Slot), gI X σ s H locs → lv_has ls 3 [(0, .ref (X.2.1 + n)), (1, .ref (X.2.1 + o)), (2, .int v2)] → f_X3_copyFrom_L72 n o k σ v2 = some σr →
    W p l e ({ frames := 0, cells := 0, slots := 0, locals := 0 } : Room) s m args below meth c H locs 0 0 (MQ below (gQv X σr) args s 0 0 (gA X)) (F0 m 72 ls []) := by
  intro k
  induction k with
  | zero =>
    intro σ v2 H locs ls hI hl h
    exact absurd h (by simp [f_X3_copyFrom_L72])
  | succ k ih =>
    intro σ v2 H locs ls hI hl h
    unfold f_X3_copyFrom_L72 at h
    refine lv_iload_n Γ.1.1 Γ.1.2.1 dX3_copyFrom_72 rfl (lv_at hl 2 rfl) ?_
    refine lv_aload_n Γ.1.1 Γ.1.2.1 dX3_copyFrom_73 rfl (lv_at hl 0 rfl) ?_
    refine get_X3_between hn Γ hI gw_7 dX3_copyFrom_74 ?_
    refine g_alen Γ hI (shN1 hn).2 (by decide) (v := (144 : Int32)) (by decide) dX3_copyFrom_77 ?_
    refine lv_icmp_ge (tgt := 108) Γ.1.1 Γ.1.2.1 dX3_copyFrom_78 (by decide) (fun c_6 => ?_) (fun c_6 => ?_)
    · replace h := ite_pos c_6 h; clear c_6
      exact g_vret Γ hI dX3_copyFrom_108 (Option.some.inj h)
    · replace h := ite_neg c_6 h; clear c_6
      refine lv_iload_n Γ.1.1 Γ.1.2.1 dX3_copyFrom_81 rfl (lv_at hl 2 rfl) ?_
      refine lv_aload_n Γ.1.1 Γ.1.2.1 dX3_copyFrom_82 rfl (lv_at hl 1 rfl) ?_
      refine get_X3_between ho Γ hI gw_7 dX3_copyFrom_83 ?_
      refine g_alen Γ hI (shN1 ho).2 (by decide) (v := (144 : Int32)) (by decide) dX3_copyFrom_86 ?_
      refine lv_icmp_ge (tgt := 108) Γ.1.1 Γ.1.2.1 dX3_copyFrom_87 (by decide) (fun c_7 => ?_) (fun c_7 => ?_)
      · replace h := ite_pos c_7 h; clear c_7
        exact g_vret Γ hI dX3_copyFrom_108 (Option.some.inj h)
      · replace h := ite_neg c_7 h; clear c_7
        refine lv_aload_n Γ.1.1 Γ.1.2.1 dX3_copyFrom_90 rfl (lv_at hl 0 rfl) ?_
        refine get_X3_between hn Γ hI gw_7 dX3_copyFrom_91 ?_
        refine lv_iload_n Γ.1.1 Γ.1.2.1 dX3_copyFrom_94 rfl (lv_at hl 2 rfl) ?_
        refine lv_aload_n Γ.1.1 Γ.1.2.1 dX3_copyFrom_95 rfl (lv_at hl 1 rfl) ?_
        refine get_X3_between ho Γ hI gw_7 dX3_copyFrom_96 ?_
        refine lv_iload_n Γ.1.1 Γ.1.2.1 dX3_copyFrom_99 rfl (lv_at hl 2 rfl) ?_
        obtain ⟨hb_8, h⟩ := bnd_some h
        refine g_iald Γ hI (shN1 ho).2 hb_8 dX3_copyFrom_100 ?_
        obtain ⟨hb_9, h⟩ := bnd_some h
        refine g_iast Γ hI (shN1 hn).2 hb_9 dX3_copyFrom_101 (fun H locs hI => ?_)
        obtain ⟨σ_10, e_m_10, h⟩ := nm_some h
        rw [← e_m_10] at hI; clear e_m_10
        obtain ⟨v2_11, e_v2_11, h⟩ := nm_some h
        refine lv_iinc (v := v2_11) (lv' := [(2, .int v2_11), (0, .ref (X.2.1 + n)), (1, .ref (X.2.1 + o))]) Γ.1.1 Γ.1.2.1 dX3_copyFrom_102 hl (k := 2) rfl (by rw [e_v2_11]; rfl) (by decide) rfl (fun ls hl => ?_)
        clear e_v2_11
        refine lv_goto (tgt := 72) Γ.1.1 Γ.1.2.1 dX3_copyFrom_105 (by decide) ?_
        exact ih σ_10 v2_11 _ _ _ hI (lv_sub hl [1, 2, 0] rfl) h
set_option maxRecDepth 20000 in
set_option maxHeartbeats 4000000 in
theorem s_X3_copyFrom_L34 {p : Program} {l : Launch} {e : Env} {s : State} {m : MethodId} {args : Array Value} {below : List Frame} {meth : Method} {c : Code} {X : GX} (n : Nat) (o : Nat) (hn : sh n = (3, 0)) (ho : sh o = (3, 0)) (σr : GM) (Γ : gC X p m meth c cX3_copyFrom 3 s args RX3 none) :
    ∀ (k : Nat) (σ : GM) (v2 : Int32) (H : Heap) (locs : List Loc) (ls : Array Slot), gI X σ s H locs → lv_has ls 3 [(0, .ref (X.2.1 + n)), (1, .ref (X.2.1 + o)), (2, .int v2)] → f_X3_copyFrom_L34 n o k σ v2 = some σr →
    W p l e ({ frames := 0, cells := 0, slots := 0, locals := 0 } : Room) s m args below meth c H locs 0 0 (MQ below (gQv X σr) args s 0 0 (gA X)) (F0 m 34 ls []) := by
  intro k
  induction k with
  | zero =>
    intro σ v2 H locs ls hI hl h
    exact absurd h (by simp [f_X3_copyFrom_L34])
  | succ k ih =>
    intro σ v2 H locs ls hI hl h
    unfold f_X3_copyFrom_L34 at h
    refine lv_iload_n Γ.1.1 Γ.1.2.1 dX3_copyFrom_34 rfl (lv_at hl 2 rfl) ?_
    refine lv_aload_n Γ.1.1 Γ.1.2.1 dX3_copyFrom_35 rfl (lv_at hl 0 rfl) ?_
    refine get_X3_weights hn Γ hI gw_8 dX3_copyFrom_36 ?_
    refine g_alen Γ hI (shN1 hn).1 (by decide) (v := (12 : Int32)) (by decide) dX3_copyFrom_39 ?_
    refine lv_icmp_ge (tgt := 70) Γ.1.1 Γ.1.2.1 dX3_copyFrom_40 (by decide) (fun c_5 => ?_) (fun c_5 => ?_)
    · replace h := ite_pos c_5 h; clear c_5
      refine lv_iconst (v := (0 : Int32)) Γ.1.1 Γ.1.2.1 dX3_copyFrom_70 (by decide) ?_
      refine lv_istore_n (lv' := [(2, .int (0 : Int32)), (0, .ref (X.2.1 + n)), (1, .ref (X.2.1 + o))]) Γ.1.1 Γ.1.2.1 dX3_copyFrom_71 rfl hl (by decide) rfl (fun ls hl => ?_)
      exact s_X3_copyFrom_L72 n o hn ho σr Γ _ σ (0 : Int32) _ _ _ hI (lv_sub hl [1, 2, 0] rfl) h
    · replace h := ite_neg c_5 h; clear c_5
      refine lv_iload_n Γ.1.1 Γ.1.2.1 dX3_copyFrom_43 rfl (lv_at hl 2 rfl) ?_
      refine lv_aload_n Γ.1.1 Γ.1.2.1 dX3_copyFrom_44 rfl (lv_at hl 1 rfl) ?_
      refine get_X3_weights ho Γ hI gw_8 dX3_copyFrom_45 ?_
      refine g_alen Γ hI (shN1 ho).1 (by decide) (v := (12 : Int32)) (by decide) dX3_copyFrom_48 ?_
      refine lv_icmp_ge (tgt := 70) Γ.1.1 Γ.1.2.1 dX3_copyFrom_49 (by decide) (fun c_12 => ?_) (fun c_12 => ?_)
      · replace h := ite_pos c_12 h; clear c_12
        refine lv_iconst (v := (0 : Int32)) Γ.1.1 Γ.1.2.1 dX3_copyFrom_70 (by decide) ?_
        refine lv_istore_n (lv' := [(2, .int (0 : Int32)), (0, .ref (X.2.1 + n)), (1, .ref (X.2.1 + o))]) Γ.1.1 Γ.1.2.1 dX3_copyFrom_71 rfl hl (by decide) rfl (fun ls hl => ?_)
        exact s_X3_copyFrom_L72 n o hn ho σr Γ _ σ (0 : Int32) _ _ _ hI (lv_sub hl [1, 2, 0] rfl) h
      · replace h := ite_neg c_12 h; clear c_12
        refine lv_aload_n Γ.1.1 Γ.1.2.1 dX3_copyFrom_52 rfl (lv_at hl 0 rfl) ?_
        refine get_X3_weights hn Γ hI gw_8 dX3_copyFrom_53 ?_
        refine lv_iload_n Γ.1.1 Γ.1.2.1 dX3_copyFrom_56 rfl (lv_at hl 2 rfl) ?_
        refine lv_aload_n Γ.1.1 Γ.1.2.1 dX3_copyFrom_57 rfl (lv_at hl 1 rfl) ?_
        refine get_X3_weights ho Γ hI gw_8 dX3_copyFrom_58 ?_
        refine lv_iload_n Γ.1.1 Γ.1.2.1 dX3_copyFrom_61 rfl (lv_at hl 2 rfl) ?_
        obtain ⟨hb_13, h⟩ := bnd_some h
        refine g_iald Γ hI (shN1 ho).1 hb_13 dX3_copyFrom_62 ?_
        obtain ⟨hb_14, h⟩ := bnd_some h
        refine g_iast Γ hI (shN1 hn).1 hb_14 dX3_copyFrom_63 (fun H locs hI => ?_)
        obtain ⟨σ_15, e_m_15, h⟩ := nm_some h
        rw [← e_m_15] at hI; clear e_m_15
        obtain ⟨v2_16, e_v2_16, h⟩ := nm_some h
        refine lv_iinc (v := v2_16) (lv' := [(2, .int v2_16), (0, .ref (X.2.1 + n)), (1, .ref (X.2.1 + o))]) Γ.1.1 Γ.1.2.1 dX3_copyFrom_64 hl (k := 2) rfl (by rw [e_v2_16]; rfl) (by decide) rfl (fun ls hl => ?_)
        clear e_v2_16
        refine lv_goto (tgt := 34) Γ.1.1 Γ.1.2.1 dX3_copyFrom_67 (by decide) ?_
        exact ih σ_15 v2_16 _ _ _ hI (lv_sub hl [1, 2, 0] rfl) h
set_option maxRecDepth 20000 in
set_option maxHeartbeats 4000000 in
theorem S_X3_copyFrom (l : Launch) (X : GX) (σ : GM) (n : Nat) (o : Nat) (hn : sh n = (3, 0)) (ho : sh o = (3, 0)) (σr : GM) (h : f_X3_copyFrom σ n o = some σr) : gMet l yX3_copyFrom cX3_copyFrom 3 none ({ frames := 0, cells := 0, slots := 0, locals := 0 } : Room) X σ [.ref (X.2.1 + n), .ref (X.2.1 + o)] (gQv X σr) := by
  unfold f_X3_copyFrom at h
  refine gMet_of (lv := [(0, .ref (X.2.1 + n)), (1, .ref (X.2.1 + o))]) (by decide) rfl (Nat.le_of_ble_eq_true rfl) rfl (fun p e s m below meth c H ls Γ hI hl => ?_)
  refine lv_aload_n Γ.1.1 Γ.1.2.1 dX3_copyFrom_0 rfl (lv_at hl 0 rfl) ?_
  refine lv_aload_n Γ.1.1 Γ.1.2.1 dX3_copyFrom_1 rfl (lv_at hl 1 rfl) ?_
  refine get_X3_told ho Γ hI gw_3 dX3_copyFrom_2 ?_
  refine put_X3_told hn Γ hI gw_3 dX3_copyFrom_5 (fun H locs hI => ?_)
  obtain ⟨σ_1, e_m_1, h⟩ := nm_some h
  rw [← e_m_1] at hI; clear e_m_1
  refine lv_aload_n Γ.1.1 Γ.1.2.1 dX3_copyFrom_8 rfl (lv_at hl 0 rfl) ?_
  refine lv_aload_n Γ.1.1 Γ.1.2.1 dX3_copyFrom_9 rfl (lv_at hl 1 rfl) ?_
  refine get_X3_there ho Γ hI gw_4 dX3_copyFrom_10 ?_
  refine put_X3_there hn Γ hI gw_4 dX3_copyFrom_13 (fun H locs hI => ?_)
  obtain ⟨σ_2, e_m_2, h⟩ := nm_some h
  rw [← e_m_2] at hI; clear e_m_2
  refine lv_aload_n Γ.1.1 Γ.1.2.1 dX3_copyFrom_16 rfl (lv_at hl 0 rfl) ?_
  refine lv_aload_n Γ.1.1 Γ.1.2.1 dX3_copyFrom_17 rfl (lv_at hl 1 rfl) ?_
  refine get_X3_taken ho Γ hI gw_5 dX3_copyFrom_18 ?_
  refine put_X3_taken hn Γ hI gw_5 dX3_copyFrom_21 (fun H locs hI => ?_)
  obtain ⟨σ_3, e_m_3, h⟩ := nm_some h
  rw [← e_m_3] at hI; clear e_m_3
  refine lv_aload_n Γ.1.1 Γ.1.2.1 dX3_copyFrom_24 rfl (lv_at hl 0 rfl) ?_
  refine lv_aload_n Γ.1.1 Γ.1.2.1 dX3_copyFrom_25 rfl (lv_at hl 1 rfl) ?_
  refine get_X3_lineCount ho Γ hI gw_6 dX3_copyFrom_26 ?_
  refine put_X3_lineCount hn Γ hI gw_6 dX3_copyFrom_29 (fun H locs hI => ?_)
  obtain ⟨σ_4, e_m_4, h⟩ := nm_some h
  rw [← e_m_4] at hI; clear e_m_4
  refine lv_iconst (v := (0 : Int32)) Γ.1.1 Γ.1.2.1 dX3_copyFrom_32 (by decide) ?_
  refine lv_istore_n (lv' := [(2, .int (0 : Int32)), (0, .ref (X.2.1 + n)), (1, .ref (X.2.1 + o))]) Γ.1.1 Γ.1.2.1 dX3_copyFrom_33 rfl hl (by decide) rfl (fun ls hl => ?_)
  exact s_X3_copyFrom_L34 n o hn ho σr Γ _ σ_4 (0 : Int32) _ _ _ hI (lv_sub hl [1, 2, 0] rfl) h
set_option maxRecDepth 20000 in
set_option maxHeartbeats 4000000 in
theorem S_X3_holds (l : Launch) (X : GX) (σ : GM) (v0 : Int32) (v1 : Int32) (x : Int32) (h : f_X3_holds σ v0 v1 = some x) : gMet l yX3_holds cX3_holds 2 (some .boolean) ({ frames := 0, cells := 0, slots := 0, locals := 0 } : Room) X σ [.int v0, .int v1] (gQi X σ x) := by
  unfold f_X3_holds at h
  refine gMet_of (lv := [(0, .int v0), (1, .int v1)]) (by decide) rfl (Nat.le_of_ble_eq_true rfl) rfl (fun p e s m below meth c H ls Γ hI hl => ?_)
  refine lv_iload_n Γ.1.1 Γ.1.2.1 dX3_holds_0 rfl (lv_at hl 1 rfl) ?_
  refine lv_if_lt (tgt := 22) Γ.1.1 Γ.1.2.1 dX3_holds_1 (by decide) (fun c_1 => ?_) (fun c_1 => ?_)
  · replace h := ite_pos c_1 h; clear c_1
    refine lv_iconst (v := (0 : Int32)) Γ.1.1 Γ.1.2.1 dX3_holds_22 (by decide) ?_
    exact g_zret Γ hI dX3_holds_23 rfl (Option.some.inj h)
  · replace h := ite_neg c_1 h; clear c_1
    refine lv_iload_n Γ.1.1 Γ.1.2.1 dX3_holds_4 rfl (lv_at hl 1 rfl) ?_
    refine lv_bipush (v := (12 : Int32)) Γ.1.1 Γ.1.2.1 dX3_holds_5 (by decide) ?_
    refine lv_icmp_ge (tgt := 22) Γ.1.1 Γ.1.2.1 dX3_holds_7 (by decide) (fun c_2 => ?_) (fun c_2 => ?_)
    · replace h := ite_pos c_2 h; clear c_2
      refine lv_iconst (v := (0 : Int32)) Γ.1.1 Γ.1.2.1 dX3_holds_22 (by decide) ?_
      exact g_zret Γ hI dX3_holds_23 rfl (Option.some.inj h)
    · replace h := ite_neg c_2 h; clear c_2
      refine lv_iload_n Γ.1.1 Γ.1.2.1 dX3_holds_10 rfl (lv_at hl 0 rfl) ?_
      refine lv_iload_n Γ.1.1 Γ.1.2.1 dX3_holds_11 rfl (lv_at hl 1 rfl) ?_
      refine lv_ishr Γ.1.1 Γ.1.2.1 dX3_holds_12 ?_
      refine lv_iconst (v := (1 : Int32)) Γ.1.1 Γ.1.2.1 dX3_holds_13 (by decide) ?_
      refine lv_iand Γ.1.1 Γ.1.2.1 dX3_holds_14 ?_
      refine lv_if_eq (tgt := 22) Γ.1.1 Γ.1.2.1 dX3_holds_15 (by decide) (fun c_3 => ?_) (fun c_3 => ?_)
      · replace h := ite_pos c_3 h; clear c_3
        refine lv_iconst (v := (0 : Int32)) Γ.1.1 Γ.1.2.1 dX3_holds_22 (by decide) ?_
        exact g_zret Γ hI dX3_holds_23 rfl (Option.some.inj h)
      · replace h := ite_neg c_3 h; clear c_3
        refine lv_iconst (v := (1 : Int32)) Γ.1.1 Γ.1.2.1 dX3_holds_18 (by decide) ?_
        refine lv_goto (tgt := 23) Γ.1.1 Γ.1.2.1 dX3_holds_19 (by decide) ?_
        exact g_zret Γ hI dX3_holds_23 rfl (Option.some.inj h)
set_option maxRecDepth 20000 in
set_option maxHeartbeats 4000000 in
theorem S_X3_isThere (l : Launch) (X : GX) (σ : GM) (n : Nat) (hn : sh n = (3, 0)) (v1 : Int32) (x : Int32) (h : f_X3_isThere σ n v1 = some x) : gMet l yX3_isThere cX3_isThere 2 (some .boolean) ({ frames := 1, cells := 0, slots := 0, locals := 21 } : Room) X σ [.ref (X.2.1 + n), .int v1] (gQi X σ x) := by
  unfold f_X3_isThere at h
  refine gMet_of (lv := [(0, .ref (X.2.1 + n)), (1, .int v1)]) (by decide) rfl (Nat.le_of_ble_eq_true rfl) rfl (fun p e s m below meth c H ls Γ hI hl => ?_)
  refine lv_aload_n Γ.1.1 Γ.1.2.1 dX3_isThere_0 rfl (lv_at hl 0 rfl) ?_
  refine get_X3_there hn Γ hI gw_4 dX3_isThere_1 ?_
  refine lv_iload_n Γ.1.1 Γ.1.2.1 dX3_isThere_4 rfl (lv_at hl 1 rfl) ?_
  obtain ⟨r_1, hr_1, h⟩ := ob_some h
  refine g_ci Γ hI (g_runS (As := [.int (σ.1 n 3), .int v1]) Γ hI (S_X3_holds l X σ (σ.1 n 3) v1 r_1 hr_1) mf_X3_holds gw_9 rfl rfl ⟨Nat.le_of_ble_eq_true rfl, Nat.le_of_ble_eq_true rfl⟩ rfl hl.1 rfl (Nat.le_of_ble_eq_true rfl) dX3_isThere_5 ⟨Nat.zero_le _, Nat.zero_le _⟩) (fun H locs hI => ?_)
  clear hr_1
  exact g_zret Γ hI dX3_isThere_8 rfl (Option.some.inj h)
set_option maxRecDepth 20000 in
set_option maxHeartbeats 4000000 in
theorem S_X3_areThere (l : Launch) (X : GX) (σ : GM) (n : Nat) (hn : sh n = (3, 0)) (v1 : Int32) (x : Int32) (h : f_X3_areThere σ n v1 = some x) : gMet l yX3_areThere cX3_areThere 2 (some .boolean) ({ frames := 0, cells := 0, slots := 0, locals := 0 } : Room) X σ [.ref (X.2.1 + n), .int v1] (gQi X σ x) := by
  unfold f_X3_areThere at h
  refine gMet_of (lv := [(0, .ref (X.2.1 + n)), (1, .int v1)]) (by decide) rfl (Nat.le_of_ble_eq_true rfl) rfl (fun p e s m below meth c H ls Γ hI hl => ?_)
  refine lv_iload_n Γ.1.1 Γ.1.2.1 dX3_areThere_0 rfl (lv_at hl 1 rfl) ?_
  refine lv_aload_n Γ.1.1 Γ.1.2.1 dX3_areThere_1 rfl (lv_at hl 0 rfl) ?_
  refine get_X3_there hn Γ hI gw_4 dX3_areThere_2 ?_
  refine lv_iconst (v := (-1 : Int32)) Γ.1.1 Γ.1.2.1 dX3_areThere_5 (by decide) ?_
  refine lv_ixor Γ.1.1 Γ.1.2.1 dX3_areThere_6 ?_
  refine lv_iand Γ.1.1 Γ.1.2.1 dX3_areThere_7 ?_
  refine lv_if_ne (tgt := 15) Γ.1.1 Γ.1.2.1 dX3_areThere_8 (by decide) (fun c_1 => ?_) (fun c_1 => ?_)
  · replace h := ite_neg c_1 h; clear c_1
    refine lv_iconst (v := (0 : Int32)) Γ.1.1 Γ.1.2.1 dX3_areThere_15 (by decide) ?_
    exact g_zret Γ hI dX3_areThere_16 rfl (Option.some.inj h)
  · replace h := ite_pos c_1 h; clear c_1
    refine lv_iconst (v := (1 : Int32)) Γ.1.1 Γ.1.2.1 dX3_areThere_11 (by decide) ?_
    refine lv_goto (tgt := 16) Γ.1.1 Γ.1.2.1 dX3_areThere_12 (by decide) ?_
    exact g_zret Γ hI dX3_areThere_16 rfl (Option.some.inj h)
set_option maxRecDepth 20000 in
set_option maxHeartbeats 4000000 in
theorem S_X3_addPoint (l : Launch) (X : GX) (σ : GM) (n : Nat) (hn : sh n = (3, 0)) (σr : GM) (h : f_X3_addPoint σ n = some σr) : gMet l yX3_addPoint cX3_addPoint 1 none ({ frames := 0, cells := 0, slots := 0, locals := 0 } : Room) X σ [.ref (X.2.1 + n)] (gQv X σr) := by
  unfold f_X3_addPoint at h
  refine gMet_of (lv := [(0, .ref (X.2.1 + n))]) (by decide) rfl (Nat.le_of_ble_eq_true rfl) rfl (fun p e s m below meth c H ls Γ hI hl => ?_)
  refine lv_aload_n Γ.1.1 Γ.1.2.1 dX3_addPoint_0 rfl (lv_at hl 0 rfl) ?_
  refine get_X3_told hn Γ hI gw_3 dX3_addPoint_1 ?_
  refine lv_if_lt (tgt := 54) Γ.1.1 Γ.1.2.1 dX3_addPoint_4 (by decide) (fun c_1 => ?_) (fun c_1 => ?_)
  · replace h := ite_pos c_1 h; clear c_1
    exact g_vret Γ hI dX3_addPoint_54 (Option.some.inj h)
  · replace h := ite_neg c_1 h; clear c_1
    refine lv_aload_n Γ.1.1 Γ.1.2.1 dX3_addPoint_7 rfl (lv_at hl 0 rfl) ?_
    refine get_X3_told hn Γ hI gw_3 dX3_addPoint_8 ?_
    refine lv_aload_n Γ.1.1 Γ.1.2.1 dX3_addPoint_11 rfl (lv_at hl 0 rfl) ?_
    refine get_X3_weights hn Γ hI gw_8 dX3_addPoint_12 ?_
    refine g_alen Γ hI (shN1 hn).1 (by decide) (v := (12 : Int32)) (by decide) dX3_addPoint_15 ?_
    refine lv_icmp_ge (tgt := 54) Γ.1.1 Γ.1.2.1 dX3_addPoint_16 (by decide) (fun c_2 => ?_) (fun c_2 => ?_)
    · replace h := ite_pos c_2 h; clear c_2
      exact g_vret Γ hI dX3_addPoint_54 (Option.some.inj h)
    · replace h := ite_neg c_2 h; clear c_2
      refine lv_aload_n Γ.1.1 Γ.1.2.1 dX3_addPoint_19 rfl (lv_at hl 0 rfl) ?_
      refine get_X3_weights hn Γ hI gw_8 dX3_addPoint_20 ?_
      refine lv_aload_n Γ.1.1 Γ.1.2.1 dX3_addPoint_23 rfl (lv_at hl 0 rfl) ?_
      refine get_X3_told hn Γ hI gw_3 dX3_addPoint_24 ?_
      refine lv_iconst (v := (1 : Int32)) Γ.1.1 Γ.1.2.1 dX3_addPoint_27 (by decide) ?_
      obtain ⟨hb_3, h⟩ := bnd_some h
      refine g_iast Γ hI (shN1 hn).1 hb_3 dX3_addPoint_28 (fun H locs hI => ?_)
      obtain ⟨σ_4, e_m_4, h⟩ := nm_some h
      rw [← e_m_4] at hI; clear e_m_4
      refine lv_aload_n Γ.1.1 Γ.1.2.1 dX3_addPoint_29 rfl (lv_at hl 0 rfl) ?_
      refine lv_dup Γ.1.1 Γ.1.2.1 dX3_addPoint_30 rfl ?_
      refine get_X3_there hn Γ hI gw_4 dX3_addPoint_31 ?_
      refine lv_iconst (v := (1 : Int32)) Γ.1.1 Γ.1.2.1 dX3_addPoint_34 (by decide) ?_
      refine lv_aload_n Γ.1.1 Γ.1.2.1 dX3_addPoint_35 rfl (lv_at hl 0 rfl) ?_
      refine get_X3_told hn Γ hI gw_3 dX3_addPoint_36 ?_
      refine lv_ishl Γ.1.1 Γ.1.2.1 dX3_addPoint_39 ?_
      refine lv_ior Γ.1.1 Γ.1.2.1 dX3_addPoint_40 ?_
      refine put_X3_there hn Γ hI gw_4 dX3_addPoint_41 (fun H locs hI => ?_)
      obtain ⟨σ_5, e_m_5, h⟩ := nm_some h
      rw [← e_m_5] at hI; clear e_m_5
      refine lv_aload_n Γ.1.1 Γ.1.2.1 dX3_addPoint_44 rfl (lv_at hl 0 rfl) ?_
      refine lv_dup Γ.1.1 Γ.1.2.1 dX3_addPoint_45 rfl ?_
      refine get_X3_told hn Γ hI gw_3 dX3_addPoint_46 ?_
      refine lv_iconst (v := (1 : Int32)) Γ.1.1 Γ.1.2.1 dX3_addPoint_49 (by decide) ?_
      refine lv_iadd Γ.1.1 Γ.1.2.1 dX3_addPoint_50 ?_
      refine put_X3_told hn Γ hI gw_3 dX3_addPoint_51 (fun H locs hI => ?_)
      obtain ⟨σ_6, e_m_6, h⟩ := nm_some h
      rw [← e_m_6] at hI; clear e_m_6
      exact g_vret Γ hI dX3_addPoint_54 (Option.some.inj h)
set_option maxRecDepth 20000 in
set_option maxHeartbeats 4000000 in
theorem S_X3_weightOf (l : Launch) (X : GX) (σ : GM) (n : Nat) (hn : sh n = (3, 0)) (v1 : Int32) (x : Int32) (h : f_X3_weightOf σ n v1 = some x) : gMet l yX3_weightOf cX3_weightOf 2 (some .int) ({ frames := 0, cells := 0, slots := 0, locals := 0 } : Room) X σ [.ref (X.2.1 + n), .int v1] (gQi X σ x) := by
  unfold f_X3_weightOf at h
  refine gMet_of (lv := [(0, .ref (X.2.1 + n)), (1, .int v1)]) (by decide) rfl (Nat.le_of_ble_eq_true rfl) rfl (fun p e s m below meth c H ls Γ hI hl => ?_)
  refine lv_iload_n Γ.1.1 Γ.1.2.1 dX3_weightOf_0 rfl (lv_at hl 1 rfl) ?_
  refine lv_if_lt (tgt := 22) Γ.1.1 Γ.1.2.1 dX3_weightOf_1 (by decide) (fun c_1 => ?_) (fun c_1 => ?_)
  · replace h := ite_pos c_1 h; clear c_1
    refine lv_iconst (v := (0 : Int32)) Γ.1.1 Γ.1.2.1 dX3_weightOf_22 (by decide) ?_
    exact g_iret Γ hI dX3_weightOf_23 rfl (Option.some.inj h)
  · replace h := ite_neg c_1 h; clear c_1
    refine lv_iload_n Γ.1.1 Γ.1.2.1 dX3_weightOf_4 rfl (lv_at hl 1 rfl) ?_
    refine lv_aload_n Γ.1.1 Γ.1.2.1 dX3_weightOf_5 rfl (lv_at hl 0 rfl) ?_
    refine get_X3_weights hn Γ hI gw_8 dX3_weightOf_6 ?_
    refine g_alen Γ hI (shN1 hn).1 (by decide) (v := (12 : Int32)) (by decide) dX3_weightOf_9 ?_
    refine lv_icmp_ge (tgt := 22) Γ.1.1 Γ.1.2.1 dX3_weightOf_10 (by decide) (fun c_2 => ?_) (fun c_2 => ?_)
    · replace h := ite_pos c_2 h; clear c_2
      refine lv_iconst (v := (0 : Int32)) Γ.1.1 Γ.1.2.1 dX3_weightOf_22 (by decide) ?_
      exact g_iret Γ hI dX3_weightOf_23 rfl (Option.some.inj h)
    · replace h := ite_neg c_2 h; clear c_2
      refine lv_aload_n Γ.1.1 Γ.1.2.1 dX3_weightOf_13 rfl (lv_at hl 0 rfl) ?_
      refine get_X3_weights hn Γ hI gw_8 dX3_weightOf_14 ?_
      refine lv_iload_n Γ.1.1 Γ.1.2.1 dX3_weightOf_17 rfl (lv_at hl 1 rfl) ?_
      obtain ⟨hb_3, h⟩ := bnd_some h
      refine g_iald Γ hI (shN1 hn).1 hb_3 dX3_weightOf_18 ?_
      refine lv_goto (tgt := 23) Γ.1.1 Γ.1.2.1 dX3_weightOf_19 (by decide) ?_
      exact g_iret Γ hI dX3_weightOf_23 rfl (Option.some.inj h)
set_option maxRecDepth 20000 in
set_option maxHeartbeats 4000000 in
theorem s_X3_weightOfSet_L4 {p : Program} {l : Launch} {e : Env} {s : State} {m : MethodId} {args : Array Value} {below : List Frame} {meth : Method} {c : Code} {X : GX} (σ : GM) (n : Nat) (hn : sh n = (3, 0)) (x : Int32) (Γ : gC X p m meth c cX3_weightOfSet 4 s args RX3 (some .int)) (v1 : Int32) :
    ∀ (k : Nat) (v2 : Int32) (v3 : Int32) (H : Heap) (locs : List Loc) (ls : Array Slot), gI X σ s H locs → lv_has ls 4 [(0, .ref (X.2.1 + n)), (1, .int v1), (2, .int v2), (3, .int v3)] → f_X3_weightOfSet_L4 σ n v1 k v2 v3 = some x →
    W p l e ({ frames := 1, cells := 0, slots := 0, locals := 21 } : Room) s m args below meth c H locs 0 0 (MQ below (gQi X σ x) args s 0 0 (gA X)) (F0 m 4 ls []) := by
  intro k
  induction k with
  | zero =>
    intro v2 v3 H locs ls hI hl h
    exact absurd h (by simp [f_X3_weightOfSet_L4])
  | succ k ih =>
    intro v2 v3 H locs ls hI hl h
    unfold f_X3_weightOfSet_L4 at h
    refine lv_iload_n Γ.1.1 Γ.1.2.1 dX3_weightOfSet_4 rfl (lv_at hl 3 rfl) ?_
    refine lv_bipush (v := (12 : Int32)) Γ.1.1 Γ.1.2.1 dX3_weightOfSet_5 (by decide) ?_
    refine lv_icmp_ge (tgt := 32) Γ.1.1 Γ.1.2.1 dX3_weightOfSet_7 (by decide) (fun c_1 => ?_) (fun c_1 => ?_)
    · replace h := ite_pos c_1 h; clear c_1
      refine lv_iload_n Γ.1.1 Γ.1.2.1 dX3_weightOfSet_32 rfl (lv_at hl 2 rfl) ?_
      exact g_iret Γ hI dX3_weightOfSet_33 rfl (Option.some.inj h)
    · replace h := ite_neg c_1 h; clear c_1
      refine lv_iload_n Γ.1.1 Γ.1.2.1 dX3_weightOfSet_10 rfl (lv_at hl 1 rfl) ?_
      refine lv_iload_n Γ.1.1 Γ.1.2.1 dX3_weightOfSet_11 rfl (lv_at hl 3 rfl) ?_
      obtain ⟨r_2, hr_2, h⟩ := ob_some h
      refine g_ci Γ hI (g_runS (As := [.int v1, .int v3]) Γ hI (S_X3_holds l X σ v1 v3 r_2 hr_2) mf_X3_holds gw_9 rfl rfl ⟨Nat.le_of_ble_eq_true rfl, Nat.le_of_ble_eq_true rfl⟩ rfl hl.1 rfl (Nat.le_of_ble_eq_true rfl) dX3_weightOfSet_12 ⟨Nat.zero_le _, Nat.zero_le _⟩) (fun H locs hI => ?_)
      clear hr_2
      refine lv_if_eq (tgt := 26) Γ.1.1 Γ.1.2.1 dX3_weightOfSet_15 (by decide) (fun c_4 => ?_) (fun c_4 => ?_)
      · replace h := ite_pos c_4 h; clear c_4
        obtain ⟨v3_5, e_v3_5, h⟩ := nm_some h
        refine lv_iinc (v := v3_5) (lv' := [(3, .int v3_5), (0, .ref (X.2.1 + n)), (1, .int v1), (2, .int v2)]) Γ.1.1 Γ.1.2.1 dX3_weightOfSet_26 hl (k := 3) rfl (by rw [e_v3_5]; rfl) (by decide) rfl (fun ls hl => ?_)
        clear e_v3_5
        refine lv_goto (tgt := 4) Γ.1.1 Γ.1.2.1 dX3_weightOfSet_29 (by decide) ?_
        exact ih v2 v3_5 _ _ _ hI (lv_sub hl [1, 2, 3, 0] rfl) h
      · replace h := ite_neg c_4 h; clear c_4
        refine lv_iload_n Γ.1.1 Γ.1.2.1 dX3_weightOfSet_18 rfl (lv_at hl 2 rfl) ?_
        refine lv_aload_n Γ.1.1 Γ.1.2.1 dX3_weightOfSet_19 rfl (lv_at hl 0 rfl) ?_
        refine lv_iload_n Γ.1.1 Γ.1.2.1 dX3_weightOfSet_20 rfl (lv_at hl 3 rfl) ?_
        obtain ⟨r_6, hr_6, h⟩ := ob_some h
        refine g_ci Γ hI (g_runV (As := [.int v3]) Γ hI (S_X3_weightOf l X σ n hn v3 r_6 hr_6) mf_X3_weightOf (recv_X3 hn Γ hI) gw_10 rfl rfl ⟨Nat.le_of_ble_eq_true rfl, Nat.le_of_ble_eq_true rfl⟩ rfl hl.1 rfl (Nat.le_of_ble_eq_true rfl) dX3_weightOfSet_21 ⟨Nat.zero_le _, Nat.zero_le _⟩) (fun H locs hI => ?_)
        clear hr_6
        refine lv_iadd Γ.1.1 Γ.1.2.1 dX3_weightOfSet_24 ?_
        refine lv_topi (fun v2_8 e_v2_8 => ?_)
        replace h := nm_at e_v2_8 h; clear e_v2_8
        refine lv_istore_n (lv' := [(2, .int v2_8), (0, .ref (X.2.1 + n)), (1, .int v1), (3, .int v3)]) Γ.1.1 Γ.1.2.1 dX3_weightOfSet_25 rfl hl (by decide) rfl (fun ls hl => ?_)
        obtain ⟨v3_9, e_v3_9, h⟩ := nm_some h
        refine lv_iinc (v := v3_9) (lv' := [(3, .int v3_9), (2, .int v2_8), (0, .ref (X.2.1 + n)), (1, .int v1)]) Γ.1.1 Γ.1.2.1 dX3_weightOfSet_26 hl (k := 3) rfl (by rw [e_v3_9]; rfl) (by decide) rfl (fun ls hl => ?_)
        clear e_v3_9
        refine lv_goto (tgt := 4) Γ.1.1 Γ.1.2.1 dX3_weightOfSet_29 (by decide) ?_
        exact ih v2_8 v3_9 _ _ _ hI (lv_sub hl [2, 3, 1, 0] rfl) h
set_option maxRecDepth 20000 in
set_option maxHeartbeats 4000000 in
theorem S_X3_weightOfSet (l : Launch) (X : GX) (σ : GM) (n : Nat) (hn : sh n = (3, 0)) (v1 : Int32) (x : Int32) (h : f_X3_weightOfSet σ n v1 = some x) : gMet l yX3_weightOfSet cX3_weightOfSet 4 (some .int) ({ frames := 1, cells := 0, slots := 0, locals := 21 } : Room) X σ [.ref (X.2.1 + n), .int v1] (gQi X σ x) := by
  unfold f_X3_weightOfSet at h
  refine gMet_of (lv := [(0, .ref (X.2.1 + n)), (1, .int v1)]) (by decide) rfl (Nat.le_of_ble_eq_true rfl) rfl (fun p e s m below meth c H ls Γ hI hl => ?_)
  refine lv_iconst (v := (0 : Int32)) Γ.1.1 Γ.1.2.1 dX3_weightOfSet_0 (by decide) ?_
  refine lv_istore_n (lv' := [(2, .int (0 : Int32)), (0, .ref (X.2.1 + n)), (1, .int v1)]) Γ.1.1 Γ.1.2.1 dX3_weightOfSet_1 rfl hl (by decide) rfl (fun ls hl => ?_)
  refine lv_iconst (v := (0 : Int32)) Γ.1.1 Γ.1.2.1 dX3_weightOfSet_2 (by decide) ?_
  refine lv_istore_n (lv' := [(3, .int (0 : Int32)), (2, .int (0 : Int32)), (0, .ref (X.2.1 + n)), (1, .int v1)]) Γ.1.1 Γ.1.2.1 dX3_weightOfSet_3 rfl hl (by decide) rfl (fun ls hl => ?_)
  exact s_X3_weightOfSet_L4 σ n hn x Γ v1 _ (0 : Int32) (0 : Int32) _ _ _ hI (lv_sub hl [2, 3, 1, 0] rfl) h
set_option maxRecDepth 20000 in
set_option maxHeartbeats 4000000 in
theorem S_X3_linesOf (l : Launch) (X : GX) (σ : GM) (n : Nat) (hn : sh n = (3, 0)) (v1 : Int32) (v2 : Int32) (x : Int32) (h : f_X3_linesOf σ n v1 v2 = some x) : gMet l yX3_linesOf cX3_linesOf 4 (some .int) ({ frames := 0, cells := 0, slots := 0, locals := 0 } : Room) X σ [.ref (X.2.1 + n), .int v1, .int v2] (gQi X σ x) := by
  unfold f_X3_linesOf at h
  refine gMet_of (lv := [(0, .ref (X.2.1 + n)), (1, .int v1), (2, .int v2)]) (by decide) rfl (Nat.le_of_ble_eq_true rfl) rfl (fun p e s m below meth c H ls Γ hI hl => ?_)
  refine lv_iload_n Γ.1.1 Γ.1.2.1 dX3_linesOf_0 rfl (lv_at hl 1 rfl) ?_
  refine lv_bipush (v := (12 : Int32)) Γ.1.1 Γ.1.2.1 dX3_linesOf_1 (by decide) ?_
  refine lv_imul Γ.1.1 Γ.1.2.1 dX3_linesOf_3 ?_
  refine lv_iload_n Γ.1.1 Γ.1.2.1 dX3_linesOf_4 rfl (lv_at hl 2 rfl) ?_
  refine lv_iadd Γ.1.1 Γ.1.2.1 dX3_linesOf_5 ?_
  refine lv_topi (fun v3_1 e_v3_1 => ?_)
  replace h := nm_at e_v3_1 h; clear e_v3_1
  refine lv_istore_n (lv' := [(3, .int v3_1), (0, .ref (X.2.1 + n)), (1, .int v1), (2, .int v2)]) Γ.1.1 Γ.1.2.1 dX3_linesOf_6 rfl hl (by decide) rfl (fun ls hl => ?_)
  refine lv_iload_n Γ.1.1 Γ.1.2.1 dX3_linesOf_7 rfl (lv_at hl 2 rfl) ?_
  refine lv_if_lt (tgt := 45) Γ.1.1 Γ.1.2.1 dX3_linesOf_8 (by decide) (fun c_2 => ?_) (fun c_2 => ?_)
  · replace h := ite_pos c_2 h; clear c_2
    refine lv_iconst (v := (0 : Int32)) Γ.1.1 Γ.1.2.1 dX3_linesOf_45 (by decide) ?_
    exact g_iret Γ hI dX3_linesOf_46 rfl (Option.some.inj h)
  · replace h := ite_neg c_2 h; clear c_2
    refine lv_iload_n Γ.1.1 Γ.1.2.1 dX3_linesOf_11 rfl (lv_at hl 2 rfl) ?_
    refine lv_bipush (v := (12 : Int32)) Γ.1.1 Γ.1.2.1 dX3_linesOf_12 (by decide) ?_
    refine lv_icmp_ge (tgt := 45) Γ.1.1 Γ.1.2.1 dX3_linesOf_14 (by decide) (fun c_3 => ?_) (fun c_3 => ?_)
    · replace h := ite_pos c_3 h; clear c_3
      refine lv_iconst (v := (0 : Int32)) Γ.1.1 Γ.1.2.1 dX3_linesOf_45 (by decide) ?_
      exact g_iret Γ hI dX3_linesOf_46 rfl (Option.some.inj h)
    · replace h := ite_neg c_3 h; clear c_3
      refine lv_iload_n Γ.1.1 Γ.1.2.1 dX3_linesOf_17 rfl (lv_at hl 3 rfl) ?_
      refine lv_if_lt (tgt := 45) Γ.1.1 Γ.1.2.1 dX3_linesOf_18 (by decide) (fun c_4 => ?_) (fun c_4 => ?_)
      · replace h := ite_pos c_4 h; clear c_4
        refine lv_iconst (v := (0 : Int32)) Γ.1.1 Γ.1.2.1 dX3_linesOf_45 (by decide) ?_
        exact g_iret Γ hI dX3_linesOf_46 rfl (Option.some.inj h)
      · replace h := ite_neg c_4 h; clear c_4
        refine lv_iload_n Γ.1.1 Γ.1.2.1 dX3_linesOf_21 rfl (lv_at hl 3 rfl) ?_
        refine lv_bipush (v := (12 : Int32)) Γ.1.1 Γ.1.2.1 dX3_linesOf_22 (by decide) ?_
        refine lv_icmp_ge (tgt := 45) Γ.1.1 Γ.1.2.1 dX3_linesOf_24 (by decide) (fun c_5 => ?_) (fun c_5 => ?_)
        · replace h := ite_pos c_5 h; clear c_5
          refine lv_iconst (v := (0 : Int32)) Γ.1.1 Γ.1.2.1 dX3_linesOf_45 (by decide) ?_
          exact g_iret Γ hI dX3_linesOf_46 rfl (Option.some.inj h)
        · replace h := ite_neg c_5 h; clear c_5
          refine lv_iload_n Γ.1.1 Γ.1.2.1 dX3_linesOf_27 rfl (lv_at hl 0 rfl) ?_
          refine lv_aload_n Γ.1.1 Γ.1.2.1 dX3_linesOf_28 rfl (lv_at hl 1 rfl) ?_
          refine get_X3_between hn Γ hI gw_7 dX3_linesOf_29 ?_
          refine g_alen Γ hI (shN1 hn).2 (by decide) (v := (144 : Int32)) (by decide) dX3_linesOf_32 ?_
          refine lv_icmp_ge (tgt := 45) Γ.1.1 Γ.1.2.1 dX3_linesOf_33 (by decide) (fun c_6 => ?_) (fun c_6 => ?_)
          · replace h := ite_pos c_6 h; clear c_6
            refine lv_iconst (v := (0 : Int32)) Γ.1.1 Γ.1.2.1 dX3_linesOf_45 (by decide) ?_
            exact g_iret Γ hI dX3_linesOf_46 rfl (Option.some.inj h)
          · replace h := ite_neg c_6 h; clear c_6
            refine lv_aload_n Γ.1.1 Γ.1.2.1 dX3_linesOf_36 rfl (lv_at hl 1 rfl) ?_
            refine get_X3_between hn Γ hI gw_7 dX3_linesOf_37 ?_
            refine lv_iload_n Γ.1.1 Γ.1.2.1 dX3_linesOf_40 rfl (lv_at hl 0 rfl) ?_
            obtain ⟨hb_7, h⟩ := bnd_some h
            refine g_iald Γ hI (shN1 hn).2 hb_7 dX3_linesOf_41 ?_
            refine lv_goto (tgt := 46) Γ.1.1 Γ.1.2.1 dX3_linesOf_42 (by decide) ?_
            exact g_iret Γ hI dX3_linesOf_46 rfl (Option.some.inj h)
set_option maxRecDepth 20000 in
set_option maxHeartbeats 4000000 in
theorem S_X3_setLines (l : Launch) (X : GX) (σ : GM) (n : Nat) (hn : sh n = (3, 0)) (v1 : Int32) (v2 : Int32) (v3 : Int32) (σr : GM) (h : f_X3_setLines σ n v1 v2 v3 = some σr) : gMet l yX3_setLines cX3_setLines 6 none ({ frames := 1, cells := 0, slots := 0, locals := 21 } : Room) X σ [.ref (X.2.1 + n), .int v1, .int v2, .int v3] (gQv X σr) := by
  unfold f_X3_setLines at h
  refine gMet_of (lv := [(0, .ref (X.2.1 + n)), (1, .int v1), (2, .int v2), (3, .int v3)]) (by decide) rfl (Nat.le_of_ble_eq_true rfl) rfl (fun p e s m below meth c H ls Γ hI hl => ?_)
  refine lv_iload_n Γ.1.1 Γ.1.2.1 dX3_setLines_0 rfl (lv_at hl 1 rfl) ?_
  refine lv_bipush (v := (12 : Int32)) Γ.1.1 Γ.1.2.1 dX3_setLines_1 (by decide) ?_
  refine lv_imul Γ.1.1 Γ.1.2.1 dX3_setLines_3 ?_
  refine lv_iload_n Γ.1.1 Γ.1.2.1 dX3_setLines_4 rfl (lv_at hl 2 rfl) ?_
  refine lv_iadd Γ.1.1 Γ.1.2.1 dX3_setLines_5 ?_
  refine lv_topi (fun v4_1 e_v4_1 => ?_)
  replace h := nm_at e_v4_1 h; clear e_v4_1
  refine lv_istore (lv' := [(4, .int v4_1), (0, .ref (X.2.1 + n)), (1, .int v1), (2, .int v2), (3, .int v3)]) Γ.1.1 Γ.1.2.1 dX3_setLines_6 hl (by decide) rfl (fun ls hl => ?_)
  refine lv_iload_n Γ.1.1 Γ.1.2.1 dX3_setLines_8 rfl (lv_at hl 3 rfl) ?_
  refine lv_bipush (v := (12 : Int32)) Γ.1.1 Γ.1.2.1 dX3_setLines_9 (by decide) ?_
  refine lv_imul Γ.1.1 Γ.1.2.1 dX3_setLines_11 ?_
  refine lv_iload_n Γ.1.1 Γ.1.2.1 dX3_setLines_12 rfl (lv_at hl 2 rfl) ?_
  refine lv_iadd Γ.1.1 Γ.1.2.1 dX3_setLines_13 ?_
  refine lv_topi (fun v5_2 e_v5_2 => ?_)
  replace h := nm_at e_v5_2 h; clear e_v5_2
  refine lv_istore (lv' := [(5, .int v5_2), (4, .int v4_1), (0, .ref (X.2.1 + n)), (1, .int v1), (2, .int v2), (3, .int v3)]) Γ.1.1 Γ.1.2.1 dX3_setLines_14 hl (by decide) rfl (fun ls hl => ?_)
  refine lv_aload_n Γ.1.1 Γ.1.2.1 dX3_setLines_16 rfl (lv_at hl 2 rfl) ?_
  refine get_X3_there hn Γ hI gw_4 dX3_setLines_17 ?_
  refine lv_iload_n Γ.1.1 Γ.1.2.1 dX3_setLines_20 rfl (lv_at hl 3 rfl) ?_
  obtain ⟨r_3, hr_3, h⟩ := ob_some h
  refine g_ci Γ hI (g_runS (As := [.int (σ.1 n 3), .int v1]) Γ hI (S_X3_holds l X σ (σ.1 n 3) v1 r_3 hr_3) mf_X3_holds gw_9 rfl rfl ⟨Nat.le_of_ble_eq_true rfl, Nat.le_of_ble_eq_true rfl⟩ rfl hl.1 rfl (Nat.le_of_ble_eq_true rfl) dX3_setLines_21 ⟨Nat.zero_le _, Nat.zero_le _⟩) (fun H locs hI => ?_)
  clear hr_3
  refine lv_if_eq (tgt := 92) Γ.1.1 Γ.1.2.1 dX3_setLines_24 (by decide) (fun c_5 => ?_) (fun c_5 => ?_)
  · replace h := ite_pos c_5 h; clear c_5
    exact g_vret Γ hI dX3_setLines_92 (Option.some.inj h)
  · replace h := ite_neg c_5 h; clear c_5
    refine lv_aload_n Γ.1.1 Γ.1.2.1 dX3_setLines_27 rfl (lv_at hl 2 rfl) ?_
    refine get_X3_there hn Γ hI gw_4 dX3_setLines_28 ?_
    refine lv_iload_n Γ.1.1 Γ.1.2.1 dX3_setLines_31 rfl (lv_at hl 4 rfl) ?_
    obtain ⟨r_6, hr_6, h⟩ := ob_some h
    refine g_ci Γ hI (g_runS (As := [.int (σ.1 n 3), .int v2]) Γ hI (S_X3_holds l X σ (σ.1 n 3) v2 r_6 hr_6) mf_X3_holds gw_9 rfl rfl ⟨Nat.le_of_ble_eq_true rfl, Nat.le_of_ble_eq_true rfl⟩ rfl hl.1 rfl (Nat.le_of_ble_eq_true rfl) dX3_setLines_32 ⟨Nat.zero_le _, Nat.zero_le _⟩) (fun H locs hI => ?_)
    clear hr_6
    refine lv_if_eq (tgt := 92) Γ.1.1 Γ.1.2.1 dX3_setLines_35 (by decide) (fun c_8 => ?_) (fun c_8 => ?_)
    · replace h := ite_pos c_8 h; clear c_8
      exact g_vret Γ hI dX3_setLines_92 (Option.some.inj h)
    · replace h := ite_neg c_8 h; clear c_8
      refine lv_iload Γ.1.1 Γ.1.2.1 dX3_setLines_38 (lv_at hl 1 rfl) ?_
      refine lv_aload_n Γ.1.1 Γ.1.2.1 dX3_setLines_40 rfl (lv_at hl 2 rfl) ?_
      refine get_X3_between hn Γ hI gw_7 dX3_setLines_41 ?_
      refine g_alen Γ hI (shN1 hn).2 (by decide) (v := (144 : Int32)) (by decide) dX3_setLines_44 ?_
      refine lv_icmp_ge (tgt := 92) Γ.1.1 Γ.1.2.1 dX3_setLines_45 (by decide) (fun c_9 => ?_) (fun c_9 => ?_)
      · replace h := ite_pos c_9 h; clear c_9
        exact g_vret Γ hI dX3_setLines_92 (Option.some.inj h)
      · replace h := ite_neg c_9 h; clear c_9
        refine lv_iload Γ.1.1 Γ.1.2.1 dX3_setLines_48 (lv_at hl 0 rfl) ?_
        refine lv_aload_n Γ.1.1 Γ.1.2.1 dX3_setLines_50 rfl (lv_at hl 2 rfl) ?_
        refine get_X3_between hn Γ hI gw_7 dX3_setLines_51 ?_
        refine g_alen Γ hI (shN1 hn).2 (by decide) (v := (144 : Int32)) (by decide) dX3_setLines_54 ?_
        refine lv_icmp_ge (tgt := 92) Γ.1.1 Γ.1.2.1 dX3_setLines_55 (by decide) (fun c_10 => ?_) (fun c_10 => ?_)
        · replace h := ite_pos c_10 h; clear c_10
          exact g_vret Γ hI dX3_setLines_92 (Option.some.inj h)
        · replace h := ite_neg c_10 h; clear c_10
          refine lv_aload_n Γ.1.1 Γ.1.2.1 dX3_setLines_58 rfl (lv_at hl 2 rfl) ?_
          refine lv_dup Γ.1.1 Γ.1.2.1 dX3_setLines_59 rfl ?_
          refine get_X3_lineCount hn Γ hI gw_6 dX3_setLines_60 ?_
          refine lv_iload_n Γ.1.1 Γ.1.2.1 dX3_setLines_63 rfl (lv_at hl 5 rfl) ?_
          refine lv_aload_n Γ.1.1 Γ.1.2.1 dX3_setLines_64 rfl (lv_at hl 2 rfl) ?_
          refine get_X3_between hn Γ hI gw_7 dX3_setLines_65 ?_
          refine lv_iload Γ.1.1 Γ.1.2.1 dX3_setLines_68 (lv_at hl 1 rfl) ?_
          obtain ⟨hb_11, h⟩ := bnd_some h
          refine g_iald Γ hI (shN1 hn).2 hb_11 dX3_setLines_70 ?_
          refine lv_isub Γ.1.1 Γ.1.2.1 dX3_setLines_71 ?_
          refine lv_iadd Γ.1.1 Γ.1.2.1 dX3_setLines_72 ?_
          refine put_X3_lineCount hn Γ hI gw_6 dX3_setLines_73 (fun H locs hI => ?_)
          obtain ⟨σ_12, e_m_12, h⟩ := nm_some h
          rw [← e_m_12] at hI; clear e_m_12
          refine lv_aload_n Γ.1.1 Γ.1.2.1 dX3_setLines_76 rfl (lv_at hl 2 rfl) ?_
          refine get_X3_between hn Γ hI gw_7 dX3_setLines_77 ?_
          refine lv_iload Γ.1.1 Γ.1.2.1 dX3_setLines_80 (lv_at hl 1 rfl) ?_
          refine lv_iload_n Γ.1.1 Γ.1.2.1 dX3_setLines_82 rfl (lv_at hl 5 rfl) ?_
          obtain ⟨hb_13, h⟩ := bnd_some h
          refine g_iast Γ hI (shN1 hn).2 hb_13 dX3_setLines_83 (fun H locs hI => ?_)
          obtain ⟨σ_14, e_m_14, h⟩ := nm_some h
          rw [← e_m_14] at hI; clear e_m_14
          refine lv_aload_n Γ.1.1 Γ.1.2.1 dX3_setLines_84 rfl (lv_at hl 2 rfl) ?_
          refine get_X3_between hn Γ hI gw_7 dX3_setLines_85 ?_
          refine lv_iload Γ.1.1 Γ.1.2.1 dX3_setLines_88 (lv_at hl 0 rfl) ?_
          refine lv_iload_n Γ.1.1 Γ.1.2.1 dX3_setLines_90 rfl (lv_at hl 5 rfl) ?_
          obtain ⟨hb_15, h⟩ := bnd_some h
          refine g_iast Γ hI (shN1 hn).2 hb_15 dX3_setLines_91 (fun H locs hI => ?_)
          obtain ⟨σ_16, e_m_16, h⟩ := nm_some h
          rw [← e_m_16] at hI; clear e_m_16
          exact g_vret Γ hI dX3_setLines_92 (Option.some.inj h)
set_option maxRecDepth 20000 in
set_option maxHeartbeats 4000000 in
theorem s_X3_besides_L5 {p : Program} {l : Launch} {e : Env} {s : State} {m : MethodId} {args : Array Value} {below : List Frame} {meth : Method} {c : Code} {X : GX} (σ : GM) (n : Nat) (hn : sh n = (3, 0)) (x : Int32) (Γ : gC X p m meth c cX3_besides 5 s args RX3 (some .int)) (v1 : Int32) (v2 : Int32) :
    ∀ (k : Nat) (v3 : Int32) (v4 : Int32) (H : Heap) (locs : List Loc) (ls : Array Slot), gI X σ s H locs → lv_has ls 5 [(0, .ref (X.2.1 + n)), (1, .int v1), (2, .int v2), (3, .int v3), (4, .int v4)] → f_X3_besides_L5 σ n v1 v2 k v3 v4 = some x →
    W p l e ({ frames := 1, cells := 0, slots := 0, locals := 23 } : Room) s m args below meth c H locs 0 0 (MQ below (gQi X σ x) args s 0 0 (gA X)) (F0 m 5 ls []) := by
  intro k
  induction k with
  | zero =>
    intro v3 v4 H locs ls hI hl h
    exact absurd h (by simp [f_X3_besides_L5])
  | succ k ih =>
    intro v3 v4 H locs ls hI hl h
    unfold f_X3_besides_L5 at h
    refine lv_iload Γ.1.1 Γ.1.2.1 dX3_besides_5 (lv_at hl 4 rfl) ?_
    refine lv_bipush (v := (12 : Int32)) Γ.1.1 Γ.1.2.1 dX3_besides_7 (by decide) ?_
    refine lv_icmp_ge (tgt := 42) Γ.1.1 Γ.1.2.1 dX3_besides_9 (by decide) (fun c_1 => ?_) (fun c_1 => ?_)
    · replace h := ite_pos c_1 h; clear c_1
      refine lv_iload_n Γ.1.1 Γ.1.2.1 dX3_besides_42 rfl (lv_at hl 3 rfl) ?_
      exact g_iret Γ hI dX3_besides_43 rfl (Option.some.inj h)
    · replace h := ite_neg c_1 h; clear c_1
      refine lv_iload Γ.1.1 Γ.1.2.1 dX3_besides_12 (lv_at hl 4 rfl) ?_
      refine lv_iload_n Γ.1.1 Γ.1.2.1 dX3_besides_14 rfl (lv_at hl 1 rfl) ?_
      refine lv_icmp_eq (tgt := 36) Γ.1.1 Γ.1.2.1 dX3_besides_15 (by decide) (fun c_2 => ?_) (fun c_2 => ?_)
      · replace h := ite_pos c_2 h; clear c_2
        obtain ⟨v4_3, e_v4_3, h⟩ := nm_some h
        refine lv_iinc (v := v4_3) (lv' := [(4, .int v4_3), (0, .ref (X.2.1 + n)), (1, .int v1), (2, .int v2), (3, .int v3)]) Γ.1.1 Γ.1.2.1 dX3_besides_36 hl (k := 4) rfl (by rw [e_v4_3]; rfl) (by decide) rfl (fun ls hl => ?_)
        clear e_v4_3
        refine lv_goto (tgt := 5) Γ.1.1 Γ.1.2.1 dX3_besides_39 (by decide) ?_
        exact ih v3 v4_3 _ _ _ hI (lv_sub hl [1, 2, 3, 4, 0] rfl) h
      · replace h := ite_neg c_2 h; clear c_2
        refine lv_aload_n Γ.1.1 Γ.1.2.1 dX3_besides_18 rfl (lv_at hl 0 rfl) ?_
        refine lv_iload_n Γ.1.1 Γ.1.2.1 dX3_besides_19 rfl (lv_at hl 1 rfl) ?_
        refine lv_iload Γ.1.1 Γ.1.2.1 dX3_besides_20 (lv_at hl 4 rfl) ?_
        obtain ⟨r_4, hr_4, h⟩ := ob_some h
        refine g_ci Γ hI (g_runV (As := [.int v1, .int v4]) Γ hI (S_X3_linesOf l X σ n hn v1 v4 r_4 hr_4) mf_X3_linesOf (recv_X3 hn Γ hI) gw_11 rfl rfl ⟨Nat.le_of_ble_eq_true rfl, Nat.le_of_ble_eq_true rfl⟩ rfl hl.1 rfl (Nat.le_of_ble_eq_true rfl) dX3_besides_22 ⟨Nat.zero_le _, Nat.zero_le _⟩) (fun H locs hI => ?_)
        clear hr_4
        refine lv_iload_n Γ.1.1 Γ.1.2.1 dX3_besides_25 rfl (lv_at hl 2 rfl) ?_
        refine lv_icmp_lt (tgt := 36) Γ.1.1 Γ.1.2.1 dX3_besides_26 (by decide) (fun c_6 => ?_) (fun c_6 => ?_)
        · replace h := ite_pos c_6 h; clear c_6
          obtain ⟨v4_7, e_v4_7, h⟩ := nm_some h
          refine lv_iinc (v := v4_7) (lv' := [(4, .int v4_7), (0, .ref (X.2.1 + n)), (1, .int v1), (2, .int v2), (3, .int v3)]) Γ.1.1 Γ.1.2.1 dX3_besides_36 hl (k := 4) rfl (by rw [e_v4_7]; rfl) (by decide) rfl (fun ls hl => ?_)
          clear e_v4_7
          refine lv_goto (tgt := 5) Γ.1.1 Γ.1.2.1 dX3_besides_39 (by decide) ?_
          exact ih v3 v4_7 _ _ _ hI (lv_sub hl [1, 2, 3, 4, 0] rfl) h
        · replace h := ite_neg c_6 h; clear c_6
          refine lv_iload_n Γ.1.1 Γ.1.2.1 dX3_besides_29 rfl (lv_at hl 3 rfl) ?_
          refine lv_iconst (v := (1 : Int32)) Γ.1.1 Γ.1.2.1 dX3_besides_30 (by decide) ?_
          refine lv_iload Γ.1.1 Γ.1.2.1 dX3_besides_31 (lv_at hl 4 rfl) ?_
          refine lv_ishl Γ.1.1 Γ.1.2.1 dX3_besides_33 ?_
          refine lv_ior Γ.1.1 Γ.1.2.1 dX3_besides_34 ?_
          refine lv_topi (fun v3_8 e_v3_8 => ?_)
          replace h := nm_at e_v3_8 h; clear e_v3_8
          refine lv_istore_n (lv' := [(3, .int v3_8), (0, .ref (X.2.1 + n)), (1, .int v1), (2, .int v2), (4, .int v4)]) Γ.1.1 Γ.1.2.1 dX3_besides_35 rfl hl (by decide) rfl (fun ls hl => ?_)
          obtain ⟨v4_9, e_v4_9, h⟩ := nm_some h
          refine lv_iinc (v := v4_9) (lv' := [(4, .int v4_9), (3, .int v3_8), (0, .ref (X.2.1 + n)), (1, .int v1), (2, .int v2)]) Γ.1.1 Γ.1.2.1 dX3_besides_36 hl (k := 4) rfl (by rw [e_v4_9]; rfl) (by decide) rfl (fun ls hl => ?_)
          clear e_v4_9
          refine lv_goto (tgt := 5) Γ.1.1 Γ.1.2.1 dX3_besides_39 (by decide) ?_
          exact ih v3_8 v4_9 _ _ _ hI (lv_sub hl [2, 3, 4, 1, 0] rfl) h
set_option maxRecDepth 20000 in
set_option maxHeartbeats 4000000 in
theorem S_X3_besides (l : Launch) (X : GX) (σ : GM) (n : Nat) (hn : sh n = (3, 0)) (v1 : Int32) (v2 : Int32) (x : Int32) (h : f_X3_besides σ n v1 v2 = some x) : gMet l yX3_besides cX3_besides 5 (some .int) ({ frames := 1, cells := 0, slots := 0, locals := 23 } : Room) X σ [.ref (X.2.1 + n), .int v1, .int v2] (gQi X σ x) := by
  unfold f_X3_besides at h
  refine gMet_of (lv := [(0, .ref (X.2.1 + n)), (1, .int v1), (2, .int v2)]) (by decide) rfl (Nat.le_of_ble_eq_true rfl) rfl (fun p e s m below meth c H ls Γ hI hl => ?_)
  refine lv_iconst (v := (0 : Int32)) Γ.1.1 Γ.1.2.1 dX3_besides_0 (by decide) ?_
  refine lv_istore_n (lv' := [(3, .int (0 : Int32)), (0, .ref (X.2.1 + n)), (1, .int v1), (2, .int v2)]) Γ.1.1 Γ.1.2.1 dX3_besides_1 rfl hl (by decide) rfl (fun ls hl => ?_)
  refine lv_iconst (v := (0 : Int32)) Γ.1.1 Γ.1.2.1 dX3_besides_2 (by decide) ?_
  refine lv_istore (lv' := [(4, .int (0 : Int32)), (3, .int (0 : Int32)), (0, .ref (X.2.1 + n)), (1, .int v1), (2, .int v2)]) Γ.1.1 Γ.1.2.1 dX3_besides_3 hl (by decide) rfl (fun ls hl => ?_)
  exact s_X3_besides_L5 σ n hn x Γ v1 v2 _ (0 : Int32) (0 : Int32) _ _ _ hI (lv_sub hl [2, 3, 4, 1, 0] rfl) h
set_option maxRecDepth 20000 in
set_option maxHeartbeats 4000000 in
theorem s_X3_endsIn_L10 {p : Program} {l : Launch} {e : Env} {s : State} {m : MethodId} {args : Array Value} {below : List Frame} {meth : Method} {c : Code} {X : GX} (σ : GM) (n : Nat) (hn : sh n = (3, 0)) (x : Int32) (Γ : gC X p m meth c cX3_endsIn 5 s args RX3 (some .int)) (v1 : Int32) (v2 : Int32) :
    ∀ (k : Nat) (v3 : Int32) (v4 : Int32) (H : Heap) (locs : List Loc) (ls : Array Slot), gI X σ s H locs → lv_has ls 5 [(0, .ref (X.2.1 + n)), (1, .int v1), (2, .int v2), (3, .int v3), (4, .int v4)] → f_X3_endsIn_L10 σ n v1 v2 k v3 v4 = some x →
    W p l e ({ frames := 1, cells := 0, slots := 0, locals := 23 } : Room) s m args below meth c H locs 0 0 (MQ below (gQi X σ x) args s 0 0 (gA X)) (F0 m 10 ls []) := by
  intro k
  induction k with
  | zero =>
    intro v3 v4 H locs ls hI hl h
    exact absurd h (by simp [f_X3_endsIn_L10])
  | succ k ih =>
    intro v3 v4 H locs ls hI hl h
    unfold f_X3_endsIn_L10 at h
    refine lv_iload Γ.1.1 Γ.1.2.1 dX3_endsIn_10 (lv_at hl 4 rfl) ?_
    refine lv_bipush (v := (12 : Int32)) Γ.1.1 Γ.1.2.1 dX3_endsIn_12 (by decide) ?_
    refine lv_icmp_ge (tgt := 42) Γ.1.1 Γ.1.2.1 dX3_endsIn_14 (by decide) (fun c_3 => ?_) (fun c_3 => ?_)
    · replace h := ite_pos c_3 h; clear c_3
      refine lv_iload_n Γ.1.1 Γ.1.2.1 dX3_endsIn_42 rfl (lv_at hl 3 rfl) ?_
      exact g_iret Γ hI dX3_endsIn_43 rfl (Option.some.inj h)
    · replace h := ite_neg c_3 h; clear c_3
      refine lv_iload_n Γ.1.1 Γ.1.2.1 dX3_endsIn_17 rfl (lv_at hl 2 rfl) ?_
      refine lv_iload Γ.1.1 Γ.1.2.1 dX3_endsIn_18 (lv_at hl 4 rfl) ?_
      obtain ⟨r_4, hr_4, h⟩ := ob_some h
      refine g_ci Γ hI (g_runS (As := [.int v2, .int v4]) Γ hI (S_X3_holds l X σ v2 v4 r_4 hr_4) mf_X3_holds gw_9 rfl rfl ⟨Nat.le_of_ble_eq_true rfl, Nat.le_of_ble_eq_true rfl⟩ rfl hl.1 rfl (Nat.le_of_ble_eq_true rfl) dX3_endsIn_20 ⟨Nat.zero_le _, Nat.zero_le _⟩) (fun H locs hI => ?_)
      clear hr_4
      refine lv_if_eq (tgt := 36) Γ.1.1 Γ.1.2.1 dX3_endsIn_23 (by decide) (fun c_6 => ?_) (fun c_6 => ?_)
      · replace h := ite_pos c_6 h; clear c_6
        obtain ⟨v4_7, e_v4_7, h⟩ := nm_some h
        refine lv_iinc (v := v4_7) (lv' := [(4, .int v4_7), (0, .ref (X.2.1 + n)), (1, .int v1), (2, .int v2), (3, .int v3)]) Γ.1.1 Γ.1.2.1 dX3_endsIn_36 hl (k := 4) rfl (by rw [e_v4_7]; rfl) (by decide) rfl (fun ls hl => ?_)
        clear e_v4_7
        refine lv_goto (tgt := 10) Γ.1.1 Γ.1.2.1 dX3_endsIn_39 (by decide) ?_
        exact ih v3 v4_7 _ _ _ hI (lv_sub hl [1, 2, 3, 4, 0] rfl) h
      · replace h := ite_neg c_6 h; clear c_6
        refine lv_iload_n Γ.1.1 Γ.1.2.1 dX3_endsIn_26 rfl (lv_at hl 3 rfl) ?_
        refine lv_aload_n Γ.1.1 Γ.1.2.1 dX3_endsIn_27 rfl (lv_at hl 0 rfl) ?_
        refine lv_iload_n Γ.1.1 Γ.1.2.1 dX3_endsIn_28 rfl (lv_at hl 1 rfl) ?_
        refine lv_iload Γ.1.1 Γ.1.2.1 dX3_endsIn_29 (lv_at hl 4 rfl) ?_
        obtain ⟨r_8, hr_8, h⟩ := ob_some h
        refine g_ci Γ hI (g_runV (As := [.int v1, .int v4]) Γ hI (S_X3_linesOf l X σ n hn v1 v4 r_8 hr_8) mf_X3_linesOf (recv_X3 hn Γ hI) gw_11 rfl rfl ⟨Nat.le_of_ble_eq_true rfl, Nat.le_of_ble_eq_true rfl⟩ rfl hl.1 rfl (Nat.le_of_ble_eq_true rfl) dX3_endsIn_31 ⟨Nat.zero_le _, Nat.zero_le _⟩) (fun H locs hI => ?_)
        clear hr_8
        refine lv_iadd Γ.1.1 Γ.1.2.1 dX3_endsIn_34 ?_
        refine lv_topi (fun v3_10 e_v3_10 => ?_)
        replace h := nm_at e_v3_10 h; clear e_v3_10
        refine lv_istore_n (lv' := [(3, .int v3_10), (0, .ref (X.2.1 + n)), (1, .int v1), (2, .int v2), (4, .int v4)]) Γ.1.1 Γ.1.2.1 dX3_endsIn_35 rfl hl (by decide) rfl (fun ls hl => ?_)
        obtain ⟨v4_11, e_v4_11, h⟩ := nm_some h
        refine lv_iinc (v := v4_11) (lv' := [(4, .int v4_11), (3, .int v3_10), (0, .ref (X.2.1 + n)), (1, .int v1), (2, .int v2)]) Γ.1.1 Γ.1.2.1 dX3_endsIn_36 hl (k := 4) rfl (by rw [e_v4_11]; rfl) (by decide) rfl (fun ls hl => ?_)
        clear e_v4_11
        refine lv_goto (tgt := 10) Γ.1.1 Γ.1.2.1 dX3_endsIn_39 (by decide) ?_
        exact ih v3_10 v4_11 _ _ _ hI (lv_sub hl [2, 3, 4, 1, 0] rfl) h
set_option maxRecDepth 20000 in
set_option maxHeartbeats 4000000 in
theorem S_X3_endsIn (l : Launch) (X : GX) (σ : GM) (n : Nat) (hn : sh n = (3, 0)) (v1 : Int32) (v2 : Int32) (x : Int32) (h : f_X3_endsIn σ n v1 v2 = some x) : gMet l yX3_endsIn cX3_endsIn 5 (some .int) ({ frames := 1, cells := 0, slots := 0, locals := 23 } : Room) X σ [.ref (X.2.1 + n), .int v1, .int v2] (gQi X σ x) := by
  unfold f_X3_endsIn at h
  refine gMet_of (lv := [(0, .ref (X.2.1 + n)), (1, .int v1), (2, .int v2)]) (by decide) rfl (Nat.le_of_ble_eq_true rfl) rfl (fun p e s m below meth c H ls Γ hI hl => ?_)
  refine lv_aload_n Γ.1.1 Γ.1.2.1 dX3_endsIn_0 rfl (lv_at hl 0 rfl) ?_
  refine lv_iload_n Γ.1.1 Γ.1.2.1 dX3_endsIn_1 rfl (lv_at hl 1 rfl) ?_
  refine lv_iload_n Γ.1.1 Γ.1.2.1 dX3_endsIn_2 rfl (lv_at hl 1 rfl) ?_
  obtain ⟨r_1, hr_1, h⟩ := ob_some h
  refine g_ci Γ hI (g_runV (As := [.int v1, .int v1]) Γ hI (S_X3_linesOf l X σ n hn v1 v1 r_1 hr_1) mf_X3_linesOf (recv_X3 hn Γ hI) gw_11 rfl rfl ⟨Nat.le_of_ble_eq_true rfl, Nat.le_of_ble_eq_true rfl⟩ rfl hl.1 rfl (Nat.le_of_ble_eq_true rfl) dX3_endsIn_3 ⟨Nat.zero_le _, Nat.zero_le _⟩) (fun H locs hI => ?_)
  clear hr_1
  refine lv_istore_n (lv' := [(3, .int r_1), (0, .ref (X.2.1 + n)), (1, .int v1), (2, .int v2)]) Γ.1.1 Γ.1.2.1 dX3_endsIn_6 rfl hl (by decide) rfl (fun ls hl => ?_)
  refine lv_iconst (v := (0 : Int32)) Γ.1.1 Γ.1.2.1 dX3_endsIn_7 (by decide) ?_
  refine lv_istore (lv' := [(4, .int (0 : Int32)), (3, .int r_1), (0, .ref (X.2.1 + n)), (1, .int v1), (2, .int v2)]) Γ.1.1 Γ.1.2.1 dX3_endsIn_8 hl (by decide) rfl (fun ls hl => ?_)
  exact s_X3_endsIn_L10 σ n hn x Γ v1 v2 _ r_1 (0 : Int32) _ _ _ hI (lv_sub hl [2, 3, 4, 1, 0] rfl) h
set_option maxRecDepth 20000 in
set_option maxHeartbeats 4000000 in
theorem s_X3_linesIn_L4 {p : Program} {l : Launch} {e : Env} {s : State} {m : MethodId} {args : Array Value} {below : List Frame} {meth : Method} {c : Code} {X : GX} (σ : GM) (n : Nat) (hn : sh n = (3, 0)) (x : Int32) (Γ : gC X p m meth c cX3_linesIn 4 s args RX3 (some .int)) (v1 : Int32) :
    ∀ (k : Nat) (v2 : Int32) (v3 : Int32) (H : Heap) (locs : List Loc) (ls : Array Slot), gI X σ s H locs → lv_has ls 4 [(0, .ref (X.2.1 + n)), (1, .int v1), (2, .int v2), (3, .int v3)] → f_X3_linesIn_L4 σ n v1 k v2 v3 = some x →
    W p l e ({ frames := 2, cells := 0, slots := 0, locals := 47 } : Room) s m args below meth c H locs 0 0 (MQ below (gQi X σ x) args s 0 0 (gA X)) (F0 m 4 ls []) := by
  intro k
  induction k with
  | zero =>
    intro v2 v3 H locs ls hI hl h
    exact absurd h (by simp [f_X3_linesIn_L4])
  | succ k ih =>
    intro v2 v3 H locs ls hI hl h
    unfold f_X3_linesIn_L4 at h
    refine lv_iload_n Γ.1.1 Γ.1.2.1 dX3_linesIn_4 rfl (lv_at hl 3 rfl) ?_
    refine lv_bipush (v := (12 : Int32)) Γ.1.1 Γ.1.2.1 dX3_linesIn_5 (by decide) ?_
    refine lv_icmp_ge (tgt := 33) Γ.1.1 Γ.1.2.1 dX3_linesIn_7 (by decide) (fun c_1 => ?_) (fun c_1 => ?_)
    · replace h := ite_pos c_1 h; clear c_1
      refine lv_iload_n Γ.1.1 Γ.1.2.1 dX3_linesIn_33 rfl (lv_at hl 2 rfl) ?_
      refine lv_iconst (v := (2 : Int32)) Γ.1.1 Γ.1.2.1 dX3_linesIn_34 (by decide) ?_
      obtain ⟨hz_2, h⟩ := nz_some h
      refine lv_idiv Γ.1.1 Γ.1.2.1 dX3_linesIn_35 hz_2 ?_
      exact g_iret Γ hI dX3_linesIn_36 rfl (Option.some.inj h)
    · replace h := ite_neg c_1 h; clear c_1
      refine lv_iload_n Γ.1.1 Γ.1.2.1 dX3_linesIn_10 rfl (lv_at hl 1 rfl) ?_
      refine lv_iload_n Γ.1.1 Γ.1.2.1 dX3_linesIn_11 rfl (lv_at hl 3 rfl) ?_
      obtain ⟨r_3, hr_3, h⟩ := ob_some h
      refine g_ci Γ hI (g_runS (As := [.int v1, .int v3]) Γ hI (S_X3_holds l X σ v1 v3 r_3 hr_3) mf_X3_holds gw_9 rfl rfl ⟨Nat.le_of_ble_eq_true rfl, Nat.le_of_ble_eq_true rfl⟩ rfl hl.1 rfl (Nat.le_of_ble_eq_true rfl) dX3_linesIn_12 ⟨Nat.zero_le _, Nat.zero_le _⟩) (fun H locs hI => ?_)
      clear hr_3
      refine lv_if_eq (tgt := 27) Γ.1.1 Γ.1.2.1 dX3_linesIn_15 (by decide) (fun c_5 => ?_) (fun c_5 => ?_)
      · replace h := ite_pos c_5 h; clear c_5
        obtain ⟨v3_6, e_v3_6, h⟩ := nm_some h
        refine lv_iinc (v := v3_6) (lv' := [(3, .int v3_6), (0, .ref (X.2.1 + n)), (1, .int v1), (2, .int v2)]) Γ.1.1 Γ.1.2.1 dX3_linesIn_27 hl (k := 3) rfl (by rw [e_v3_6]; rfl) (by decide) rfl (fun ls hl => ?_)
        clear e_v3_6
        refine lv_goto (tgt := 4) Γ.1.1 Γ.1.2.1 dX3_linesIn_30 (by decide) ?_
        exact ih v2 v3_6 _ _ _ hI (lv_sub hl [1, 2, 3, 0] rfl) h
      · replace h := ite_neg c_5 h; clear c_5
        refine lv_iload_n Γ.1.1 Γ.1.2.1 dX3_linesIn_18 rfl (lv_at hl 2 rfl) ?_
        refine lv_aload_n Γ.1.1 Γ.1.2.1 dX3_linesIn_19 rfl (lv_at hl 0 rfl) ?_
        refine lv_iload_n Γ.1.1 Γ.1.2.1 dX3_linesIn_20 rfl (lv_at hl 3 rfl) ?_
        refine lv_iload_n Γ.1.1 Γ.1.2.1 dX3_linesIn_21 rfl (lv_at hl 1 rfl) ?_
        obtain ⟨r_7, hr_7, h⟩ := ob_some h
        refine g_ci Γ hI (g_runV (As := [.int v3, .int v1]) Γ hI (S_X3_endsIn l X σ n hn v3 v1 r_7 hr_7) mf_X3_endsIn (recv_X3 hn Γ hI) gw_12 rfl rfl ⟨Nat.le_of_ble_eq_true rfl, Nat.le_of_ble_eq_true rfl⟩ rfl hl.1 rfl (Nat.le_of_ble_eq_true rfl) dX3_linesIn_22 ⟨Nat.zero_le _, Nat.zero_le _⟩) (fun H locs hI => ?_)
        clear hr_7
        refine lv_iadd Γ.1.1 Γ.1.2.1 dX3_linesIn_25 ?_
        refine lv_topi (fun v2_9 e_v2_9 => ?_)
        replace h := nm_at e_v2_9 h; clear e_v2_9
        refine lv_istore_n (lv' := [(2, .int v2_9), (0, .ref (X.2.1 + n)), (1, .int v1), (3, .int v3)]) Γ.1.1 Γ.1.2.1 dX3_linesIn_26 rfl hl (by decide) rfl (fun ls hl => ?_)
        obtain ⟨v3_10, e_v3_10, h⟩ := nm_some h
        refine lv_iinc (v := v3_10) (lv' := [(3, .int v3_10), (2, .int v2_9), (0, .ref (X.2.1 + n)), (1, .int v1)]) Γ.1.1 Γ.1.2.1 dX3_linesIn_27 hl (k := 3) rfl (by rw [e_v3_10]; rfl) (by decide) rfl (fun ls hl => ?_)
        clear e_v3_10
        refine lv_goto (tgt := 4) Γ.1.1 Γ.1.2.1 dX3_linesIn_30 (by decide) ?_
        exact ih v2_9 v3_10 _ _ _ hI (lv_sub hl [2, 3, 1, 0] rfl) h
set_option maxRecDepth 20000 in
set_option maxHeartbeats 4000000 in
theorem S_X3_linesIn (l : Launch) (X : GX) (σ : GM) (n : Nat) (hn : sh n = (3, 0)) (v1 : Int32) (x : Int32) (h : f_X3_linesIn σ n v1 = some x) : gMet l yX3_linesIn cX3_linesIn 4 (some .int) ({ frames := 2, cells := 0, slots := 0, locals := 47 } : Room) X σ [.ref (X.2.1 + n), .int v1] (gQi X σ x) := by
  unfold f_X3_linesIn at h
  refine gMet_of (lv := [(0, .ref (X.2.1 + n)), (1, .int v1)]) (by decide) rfl (Nat.le_of_ble_eq_true rfl) rfl (fun p e s m below meth c H ls Γ hI hl => ?_)
  refine lv_iconst (v := (0 : Int32)) Γ.1.1 Γ.1.2.1 dX3_linesIn_0 (by decide) ?_
  refine lv_istore_n (lv' := [(2, .int (0 : Int32)), (0, .ref (X.2.1 + n)), (1, .int v1)]) Γ.1.1 Γ.1.2.1 dX3_linesIn_1 rfl hl (by decide) rfl (fun ls hl => ?_)
  refine lv_iconst (v := (0 : Int32)) Γ.1.1 Γ.1.2.1 dX3_linesIn_2 (by decide) ?_
  refine lv_istore_n (lv' := [(3, .int (0 : Int32)), (2, .int (0 : Int32)), (0, .ref (X.2.1 + n)), (1, .int v1)]) Γ.1.1 Γ.1.2.1 dX3_linesIn_3 rfl hl (by decide) rfl (fun ls hl => ?_)
  exact s_X3_linesIn_L4 σ n hn x Γ v1 _ (0 : Int32) (0 : Int32) _ _ _ hI (lv_sub hl [2, 3, 1, 0] rfl) h
set_option maxRecDepth 20000 in
set_option maxHeartbeats 4000000 in
theorem S_X8_lowest (l : Launch) (X : GX) (σ : GM) (v0 : Int32) (x : Int32) (h : f_X8_lowest σ v0 = some x) : gMet l yX8_lowest cX8_lowest 1 (some .int) ({ frames := 1, cells := 0, slots := 0, locals := 20 } : Room) X σ [.int v0] (gQi X σ x) := by
  unfold f_X8_lowest at h
  refine gMet_of (lv := [(0, .int v0)]) (by decide) rfl (Nat.le_of_ble_eq_true rfl) rfl (fun p e s m below meth c H ls Γ hI hl => ?_)
  refine lv_iload_n Γ.1.1 Γ.1.2.1 dX8_lowest_0 rfl (lv_at hl 0 rfl) ?_
  refine lv_if_ne (tgt := 8) Γ.1.1 Γ.1.2.1 dX8_lowest_1 (by decide) (fun c_1 => ?_) (fun c_1 => ?_)
  · replace h := ite_neg c_1 h; clear c_1
    refine lv_iload_n Γ.1.1 Γ.1.2.1 dX8_lowest_8 rfl (lv_at hl 0 rfl) ?_
    refine lv_iload_n Γ.1.1 Γ.1.2.1 dX8_lowest_9 rfl (lv_at hl 0 rfl) ?_
    refine lv_ineg Γ.1.1 Γ.1.2.1 dX8_lowest_10 ?_
    refine lv_iand Γ.1.1 Γ.1.2.1 dX8_lowest_11 ?_
    refine lv_iconst (v := (1 : Int32)) Γ.1.1 Γ.1.2.1 dX8_lowest_12 (by decide) ?_
    refine lv_isub Γ.1.1 Γ.1.2.1 dX8_lowest_13 ?_
    obtain ⟨r_2, hr_2, h⟩ := ob_some h
    refine g_ci Γ hI (g_runS (As := [.int ((v0 &&& (-v0)) - (1 : Int32))]) Γ hI (S_J6_bitCount_0f7a4 l X σ ((v0 &&& (-v0)) - (1 : Int32)) r_2 hr_2) mf_J6_bitCount_0f7a4 gw_13 rfl rfl ⟨Nat.le_of_ble_eq_true rfl, Nat.le_of_ble_eq_true rfl⟩ rfl hl.1 rfl (Nat.le_of_ble_eq_true rfl) dX8_lowest_14 ⟨Nat.zero_le _, Nat.zero_le _⟩) (fun H locs hI => ?_)
    clear hr_2
    exact g_iret Γ hI dX8_lowest_17 rfl (Option.some.inj h)
  · replace h := ite_pos c_1 h; clear c_1
    refine lv_iconst (v := (-1 : Int32)) Γ.1.1 Γ.1.2.1 dX8_lowest_4 (by decide) ?_
    refine lv_goto (tgt := 17) Γ.1.1 Γ.1.2.1 dX8_lowest_5 (by decide) ?_
    exact g_iret Γ hI dX8_lowest_17 rfl (Option.some.inj h)
set_option maxRecDepth 20000 in
set_option maxHeartbeats 4000000 in
theorem s_X3_reachedFrom_L46 {p : Program} {l : Launch} {e : Env} {s : State} {m : MethodId} {args : Array Value} {below : List Frame} {meth : Method} {c : Code} {X : GX} (σ : GM) (n : Nat) (hn : sh n = (3, 0)) (x : Int32) (Γ : gC X p m meth c cX3_reachedFrom 8 s args RX3 (some .int)) (v2 : Int32) (v4 : Int32) (v5 : Int32) (v6 : Int32) (k10 : Int32 → Int32 → Int32 → Option Int32) (hk10 : ∀ (v3 : Int32) (v4 : Int32) (v5 : Int32) (H : Heap) (locs : List Loc) (ls : Array Slot), gI X σ s H locs → lv_has ls 8 [(0, .ref (X.2.1 + n)), (2, .int v2), (3, .int v3), (4, .int v4), (5, .int v5)] → k10 v3 v4 v5 = some x → W p l e ({ frames := 2, cells := 0, slots := 0, locals := 40 } : Room) s m args below meth c H locs 0 0 (MQ below (gQi X σ x) args s 0 0 (gA X)) (F0 m 10 ls [])) :
    ∀ (k : Nat) (v3 : Int32) (v7 : Int32) (H : Heap) (locs : List Loc) (ls : Array Slot), gI X σ s H locs → lv_has ls 8 [(0, .ref (X.2.1 + n)), (2, .int v2), (3, .int v3), (4, .int v4), (5, .int v5), (6, .int v6), (7, .int v7)] → f_X3_reachedFrom_L46 σ n k10 v2 v4 v5 v6 k v3 v7 = some x →
    W p l e ({ frames := 2, cells := 0, slots := 0, locals := 40 } : Room) s m args below meth c H locs 0 0 (MQ below (gQi X σ x) args s 0 0 (gA X)) (F0 m 46 ls []) := by
  intro k
  induction k with
  | zero =>
    intro v3 v7 H locs ls hI hl h
    exact absurd h (by simp [f_X3_reachedFrom_L46])
  | succ k ih =>
    intro v3 v7 H locs ls hI hl h
    unfold f_X3_reachedFrom_L46 at h
    refine lv_iload Γ.1.1 Γ.1.2.1 dX3_reachedFrom_46 (lv_at hl 6 rfl) ?_
    refine lv_bipush (v := (12 : Int32)) Γ.1.1 Γ.1.2.1 dX3_reachedFrom_48 (by decide) ?_
    refine lv_icmp_ge (tgt := 79) Γ.1.1 Γ.1.2.1 dX3_reachedFrom_50 (by decide) (fun c_7 => ?_) (fun c_7 => ?_)
    · replace h := ite_pos c_7 h; clear c_7
      obtain ⟨v5_8, e_v5_8, h⟩ := nm_some h
      refine lv_iinc (v := v5_8) (lv' := [(5, .int v5_8), (0, .ref (X.2.1 + n)), (2, .int v2), (3, .int v3), (4, .int v4), (6, .int v6), (7, .int v7)]) Γ.1.1 Γ.1.2.1 dX3_reachedFrom_79 hl (k := 4) rfl (by rw [e_v5_8]; rfl) (by decide) rfl (fun ls hl => ?_)
      clear e_v5_8
      refine lv_goto (tgt := 10) Γ.1.1 Γ.1.2.1 dX3_reachedFrom_82 (by decide) ?_
      exact hk10 v3 v4 v5_8 _ _ _ hI (lv_sub hl [1, 2, 3, 4, 0] rfl) h
    · replace h := ite_neg c_7 h; clear c_7
      refine lv_aload_n Γ.1.1 Γ.1.2.1 dX3_reachedFrom_53 rfl (lv_at hl 0 rfl) ?_
      refine lv_iload Γ.1.1 Γ.1.2.1 dX3_reachedFrom_54 (lv_at hl 5 rfl) ?_
      refine lv_iload Γ.1.1 Γ.1.2.1 dX3_reachedFrom_56 (lv_at hl 6 rfl) ?_
      obtain ⟨r_9, hr_9, h⟩ := ob_some h
      refine g_ci Γ hI (g_runV (As := [.int v6, .int v7]) Γ hI (S_X3_linesOf l X σ n hn v6 v7 r_9 hr_9) mf_X3_linesOf (recv_X3 hn Γ hI) gw_11 rfl rfl ⟨Nat.le_of_ble_eq_true rfl, Nat.le_of_ble_eq_true rfl⟩ rfl hl.1 rfl (Nat.le_of_ble_eq_true rfl) dX3_reachedFrom_58 ⟨Nat.zero_le _, Nat.zero_le _⟩) (fun H locs hI => ?_)
      clear hr_9
      refine lv_if_le (tgt := 73) Γ.1.1 Γ.1.2.1 dX3_reachedFrom_61 (by decide) (fun c_11 => ?_) (fun c_11 => ?_)
      · replace h := ite_pos c_11 h; clear c_11
        obtain ⟨v7_12, e_v7_12, h⟩ := nm_some h
        refine lv_iinc (v := v7_12) (lv' := [(7, .int v7_12), (0, .ref (X.2.1 + n)), (2, .int v2), (3, .int v3), (4, .int v4), (5, .int v5), (6, .int v6)]) Γ.1.1 Γ.1.2.1 dX3_reachedFrom_73 hl (k := 6) rfl (by rw [e_v7_12]; rfl) (by decide) rfl (fun ls hl => ?_)
        clear e_v7_12
        refine lv_goto (tgt := 46) Γ.1.1 Γ.1.2.1 dX3_reachedFrom_76 (by decide) ?_
        exact ih v3 v7_12 _ _ _ hI (lv_sub hl [1, 2, 3, 4, 5, 6, 0] rfl) h
      · replace h := ite_neg c_11 h; clear c_11
        refine lv_iload_n Γ.1.1 Γ.1.2.1 dX3_reachedFrom_64 rfl (lv_at hl 2 rfl) ?_
        refine lv_iconst (v := (1 : Int32)) Γ.1.1 Γ.1.2.1 dX3_reachedFrom_65 (by decide) ?_
        refine lv_iload Γ.1.1 Γ.1.2.1 dX3_reachedFrom_66 (lv_at hl 6 rfl) ?_
        refine lv_ishl Γ.1.1 Γ.1.2.1 dX3_reachedFrom_68 ?_
        refine lv_iload_n Γ.1.1 Γ.1.2.1 dX3_reachedFrom_69 rfl (lv_at hl 1 rfl) ?_
        refine lv_iand Γ.1.1 Γ.1.2.1 dX3_reachedFrom_70 ?_
        refine lv_ior Γ.1.1 Γ.1.2.1 dX3_reachedFrom_71 ?_
        refine lv_topi (fun v3_13 e_v3_13 => ?_)
        replace h := nm_at e_v3_13 h; clear e_v3_13
        refine lv_istore_n (lv' := [(3, .int v3_13), (0, .ref (X.2.1 + n)), (2, .int v2), (4, .int v4), (5, .int v5), (6, .int v6), (7, .int v7)]) Γ.1.1 Γ.1.2.1 dX3_reachedFrom_72 rfl hl (by decide) rfl (fun ls hl => ?_)
        obtain ⟨v7_14, e_v7_14, h⟩ := nm_some h
        refine lv_iinc (v := v7_14) (lv' := [(7, .int v7_14), (3, .int v3_13), (0, .ref (X.2.1 + n)), (2, .int v2), (4, .int v4), (5, .int v5), (6, .int v6)]) Γ.1.1 Γ.1.2.1 dX3_reachedFrom_73 hl (k := 6) rfl (by rw [e_v7_14]; rfl) (by decide) rfl (fun ls hl => ?_)
        clear e_v7_14
        refine lv_goto (tgt := 46) Γ.1.1 Γ.1.2.1 dX3_reachedFrom_76 (by decide) ?_
        exact ih v3_13 v7_14 _ _ _ hI (lv_sub hl [2, 3, 1, 4, 5, 6, 0] rfl) h
set_option maxRecDepth 20000 in
set_option maxHeartbeats 4000000 in
theorem s_X3_reachedFrom_L10 {p : Program} {l : Launch} {e : Env} {s : State} {m : MethodId} {args : Array Value} {below : List Frame} {meth : Method} {c : Code} {X : GX} (σ : GM) (n : Nat) (hn : sh n = (3, 0)) (x : Int32) (Γ : gC X p m meth c cX3_reachedFrom 8 s args RX3 (some .int)) (v2 : Int32) :
    ∀ (k : Nat) (v3 : Int32) (v4 : Int32) (v5 : Int32) (H : Heap) (locs : List Loc) (ls : Array Slot), gI X σ s H locs → lv_has ls 8 [(0, .ref (X.2.1 + n)), (2, .int v2), (3, .int v3), (4, .int v4), (5, .int v5)] → f_X3_reachedFrom_L10 σ n v2 k v3 v4 v5 = some x →
    W p l e ({ frames := 2, cells := 0, slots := 0, locals := 40 } : Room) s m args below meth c H locs 0 0 (MQ below (gQi X σ x) args s 0 0 (gA X)) (F0 m 10 ls []) := by
  intro k
  induction k with
  | zero =>
    intro v3 v4 v5 H locs ls hI hl h
    exact absurd h (by simp [f_X3_reachedFrom_L10])
  | succ k ih =>
    intro v3 v4 v5 H locs ls hI hl h
    unfold f_X3_reachedFrom_L10 at h
    refine lv_iload Γ.1.1 Γ.1.2.1 dX3_reachedFrom_10 (lv_at hl 4 rfl) ?_
    refine lv_bipush (v := (12 : Int32)) Γ.1.1 Γ.1.2.1 dX3_reachedFrom_12 (by decide) ?_
    refine lv_icmp_ge (tgt := 85) Γ.1.1 Γ.1.2.1 dX3_reachedFrom_14 (by decide) (fun c_2 => ?_) (fun c_2 => ?_)
    · replace h := ite_pos c_2 h; clear c_2
      refine lv_iload_n Γ.1.1 Γ.1.2.1 dX3_reachedFrom_85 rfl (lv_at hl 2 rfl) ?_
      exact g_iret Γ hI dX3_reachedFrom_86 rfl (Option.some.inj h)
    · replace h := ite_neg c_2 h; clear c_2
      refine lv_iload_n Γ.1.1 Γ.1.2.1 dX3_reachedFrom_17 rfl (lv_at hl 2 rfl) ?_
      refine lv_iload Γ.1.1 Γ.1.2.1 dX3_reachedFrom_18 (lv_at hl 3 rfl) ?_
      refine lv_icmp_eq (tgt := 85) Γ.1.1 Γ.1.2.1 dX3_reachedFrom_20 (by decide) (fun c_3 => ?_) (fun c_3 => ?_)
      · replace h := ite_pos c_3 h; clear c_3
        refine lv_iload_n Γ.1.1 Γ.1.2.1 dX3_reachedFrom_85 rfl (lv_at hl 2 rfl) ?_
        exact g_iret Γ hI dX3_reachedFrom_86 rfl (Option.some.inj h)
      · replace h := ite_neg c_3 h; clear c_3
        refine lv_iload_n Γ.1.1 Γ.1.2.1 dX3_reachedFrom_23 rfl (lv_at hl 2 rfl) ?_
        refine lv_iload Γ.1.1 Γ.1.2.1 dX3_reachedFrom_24 (lv_at hl 3 rfl) ?_
        refine lv_iconst (v := (-1 : Int32)) Γ.1.1 Γ.1.2.1 dX3_reachedFrom_26 (by decide) ?_
        refine lv_ixor Γ.1.1 Γ.1.2.1 dX3_reachedFrom_27 ?_
        refine lv_iand Γ.1.1 Γ.1.2.1 dX3_reachedFrom_28 ?_
        obtain ⟨r_4, hr_4, h⟩ := ob_some h
        refine g_ci Γ hI (g_runS (As := [.int (v3 &&& (v4 ^^^ (-1 : Int32)))]) Γ hI (S_X8_lowest l X σ (v3 &&& (v4 ^^^ (-1 : Int32))) r_4 hr_4) mf_X8_lowest gw_14 rfl rfl ⟨Nat.le_of_ble_eq_true rfl, Nat.le_of_ble_eq_true rfl⟩ rfl hl.1 rfl (Nat.le_of_ble_eq_true rfl) dX3_reachedFrom_29 ⟨Nat.zero_le _, Nat.zero_le _⟩) (fun H locs hI => ?_)
        clear hr_4
        refine lv_istore (lv' := [(6, .int r_4), (0, .ref (X.2.1 + n)), (2, .int v2), (3, .int v3), (4, .int v4), (5, .int v5)]) Γ.1.1 Γ.1.2.1 dX3_reachedFrom_32 hl (by decide) rfl (fun ls hl => ?_)
        refine lv_iload Γ.1.1 Γ.1.2.1 dX3_reachedFrom_34 (lv_at hl 4 rfl) ?_
        refine lv_iconst (v := (1 : Int32)) Γ.1.1 Γ.1.2.1 dX3_reachedFrom_36 (by decide) ?_
        refine lv_iload Γ.1.1 Γ.1.2.1 dX3_reachedFrom_37 (lv_at hl 0 rfl) ?_
        refine lv_ishl Γ.1.1 Γ.1.2.1 dX3_reachedFrom_39 ?_
        refine lv_ior Γ.1.1 Γ.1.2.1 dX3_reachedFrom_40 ?_
        refine lv_topi (fun v4_6 e_v4_6 => ?_)
        replace h := nm_at e_v4_6 h; clear e_v4_6
        refine lv_istore (lv' := [(4, .int v4_6), (6, .int r_4), (0, .ref (X.2.1 + n)), (2, .int v2), (3, .int v3), (5, .int v5)]) Γ.1.1 Γ.1.2.1 dX3_reachedFrom_41 hl (by decide) rfl (fun ls hl => ?_)
        refine lv_iconst (v := (0 : Int32)) Γ.1.1 Γ.1.2.1 dX3_reachedFrom_43 (by decide) ?_
        refine lv_istore (lv' := [(7, .int (0 : Int32)), (4, .int v4_6), (6, .int r_4), (0, .ref (X.2.1 + n)), (2, .int v2), (3, .int v3), (5, .int v5)]) Γ.1.1 Γ.1.2.1 dX3_reachedFrom_44 hl (by decide) rfl (fun ls hl => ?_)
        exact s_X3_reachedFrom_L46 σ n hn x Γ v2 v4_6 v5 r_4 _ ih _ v3 (0 : Int32) _ _ _ hI (lv_sub hl [3, 4, 5, 1, 6, 2, 0] rfl) h
set_option maxRecDepth 20000 in
set_option maxHeartbeats 4000000 in
theorem S_X3_reachedFrom (l : Launch) (X : GX) (σ : GM) (n : Nat) (hn : sh n = (3, 0)) (v1 : Int32) (v2 : Int32) (x : Int32) (h : f_X3_reachedFrom σ n v1 v2 = some x) : gMet l yX3_reachedFrom cX3_reachedFrom 8 (some .int) ({ frames := 2, cells := 0, slots := 0, locals := 40 } : Room) X σ [.ref (X.2.1 + n), .int v1, .int v2] (gQi X σ x) := by
  unfold f_X3_reachedFrom at h
  refine gMet_of (lv := [(0, .ref (X.2.1 + n)), (1, .int v1), (2, .int v2)]) (by decide) rfl (Nat.le_of_ble_eq_true rfl) rfl (fun p e s m below meth c H ls Γ hI hl => ?_)
  refine lv_iconst (v := (1 : Int32)) Γ.1.1 Γ.1.2.1 dX3_reachedFrom_0 (by decide) ?_
  refine lv_iload_n Γ.1.1 Γ.1.2.1 dX3_reachedFrom_1 rfl (lv_at hl 1 rfl) ?_
  refine lv_ishl Γ.1.1 Γ.1.2.1 dX3_reachedFrom_2 ?_
  refine lv_topi (fun v3_1 e_v3_1 => ?_)
  replace h := nm_at e_v3_1 h; clear e_v3_1
  refine lv_istore_n (lv' := [(3, .int v3_1), (0, .ref (X.2.1 + n)), (1, .int v1), (2, .int v2)]) Γ.1.1 Γ.1.2.1 dX3_reachedFrom_3 rfl hl (by decide) rfl (fun ls hl => ?_)
  refine lv_iconst (v := (0 : Int32)) Γ.1.1 Γ.1.2.1 dX3_reachedFrom_4 (by decide) ?_
  refine lv_istore (lv' := [(4, .int (0 : Int32)), (3, .int v3_1), (0, .ref (X.2.1 + n)), (1, .int v1), (2, .int v2)]) Γ.1.1 Γ.1.2.1 dX3_reachedFrom_5 hl (by decide) rfl (fun ls hl => ?_)
  refine lv_iconst (v := (0 : Int32)) Γ.1.1 Γ.1.2.1 dX3_reachedFrom_7 (by decide) ?_
  refine lv_istore (lv' := [(5, .int (0 : Int32)), (4, .int (0 : Int32)), (3, .int v3_1), (0, .ref (X.2.1 + n)), (1, .int v1), (2, .int v2)]) Γ.1.1 Γ.1.2.1 dX3_reachedFrom_8 hl (by decide) rfl (fun ls hl => ?_)
  exact s_X3_reachedFrom_L10 σ n hn x Γ v2 _ v3_1 (0 : Int32) (0 : Int32) _ _ _ hI (lv_sub hl [3, 5, 2, 1, 0] rfl) h
set_option maxRecDepth 20000 in
set_option maxHeartbeats 4000000 in
theorem s_X3_partsIn_L7 {p : Program} {l : Launch} {e : Env} {s : State} {m : MethodId} {args : Array Value} {below : List Frame} {meth : Method} {c : Code} {X : GX} (σ : GM) (n : Nat) (hn : sh n = (3, 0)) (x : Int32) (Γ : gC X p m meth c cX3_partsIn 5 s args RX3 (some .int)) :
    ∀ (k : Nat) (v2 : Int32) (v3 : Int32) (v4 : Int32) (H : Heap) (locs : List Loc) (ls : Array Slot), gI X σ s H locs → lv_has ls 5 [(0, .ref (X.2.1 + n)), (2, .int v2), (3, .int v3), (4, .int v4)] → f_X3_partsIn_L7 σ n k v2 v3 v4 = some x →
    W p l e ({ frames := 3, cells := 0, slots := 0, locals := 67 } : Room) s m args below meth c H locs 0 0 (MQ below (gQi X σ x) args s 0 0 (gA X)) (F0 m 7 ls []) := by
  intro k
  induction k with
  | zero =>
    intro v2 v3 v4 H locs ls hI hl h
    exact absurd h (by simp [f_X3_partsIn_L7])
  | succ k ih =>
    intro v2 v3 v4 H locs ls hI hl h
    unfold f_X3_partsIn_L7 at h
    refine lv_iload Γ.1.1 Γ.1.2.1 dX3_partsIn_7 (lv_at hl 3 rfl) ?_
    refine lv_bipush (v := (12 : Int32)) Γ.1.1 Γ.1.2.1 dX3_partsIn_9 (by decide) ?_
    refine lv_icmp_ge (tgt := 44) Γ.1.1 Γ.1.2.1 dX3_partsIn_11 (by decide) (fun c_1 => ?_) (fun c_1 => ?_)
    · replace h := ite_pos c_1 h; clear c_1
      refine lv_iload_n Γ.1.1 Γ.1.2.1 dX3_partsIn_44 rfl (lv_at hl 2 rfl) ?_
      exact g_iret Γ hI dX3_partsIn_45 rfl (Option.some.inj h)
    · replace h := ite_neg c_1 h; clear c_1
      refine lv_iload_n Γ.1.1 Γ.1.2.1 dX3_partsIn_14 rfl (lv_at hl 1 rfl) ?_
      refine lv_iload Γ.1.1 Γ.1.2.1 dX3_partsIn_15 (lv_at hl 3 rfl) ?_
      obtain ⟨r_2, hr_2, h⟩ := ob_some h
      refine g_ci Γ hI (g_runS (As := [.int v2, .int v4]) Γ hI (S_X3_holds l X σ v2 v4 r_2 hr_2) mf_X3_holds gw_9 rfl rfl ⟨Nat.le_of_ble_eq_true rfl, Nat.le_of_ble_eq_true rfl⟩ rfl hl.1 rfl (Nat.le_of_ble_eq_true rfl) dX3_partsIn_17 ⟨Nat.zero_le _, Nat.zero_le _⟩) (fun H locs hI => ?_)
      clear hr_2
      refine lv_if_eq (tgt := 38) Γ.1.1 Γ.1.2.1 dX3_partsIn_20 (by decide) (fun c_4 => ?_) (fun c_4 => ?_)
      · replace h := ite_pos c_4 h; clear c_4
        obtain ⟨v4_5, e_v4_5, h⟩ := nm_some h
        refine lv_iinc (v := v4_5) (lv' := [(4, .int v4_5), (0, .ref (X.2.1 + n)), (2, .int v2), (3, .int v3)]) Γ.1.1 Γ.1.2.1 dX3_partsIn_38 hl (k := 3) rfl (by rw [e_v4_5]; rfl) (by decide) rfl (fun ls hl => ?_)
        clear e_v4_5
        refine lv_goto (tgt := 7) Γ.1.1 Γ.1.2.1 dX3_partsIn_41 (by decide) ?_
        exact ih v2 v3 v4_5 _ _ _ hI (lv_sub hl [1, 2, 3, 0] rfl) h
      · replace h := ite_neg c_4 h; clear c_4
        obtain ⟨v3_6, e_v3_6, h⟩ := nm_some h
        refine lv_iinc (v := v3_6) (lv' := [(3, .int v3_6), (0, .ref (X.2.1 + n)), (2, .int v2), (4, .int v4)]) Γ.1.1 Γ.1.2.1 dX3_partsIn_23 hl (k := 2) rfl (by rw [e_v3_6]; rfl) (by decide) rfl (fun ls hl => ?_)
        clear e_v3_6
        refine lv_iload_n Γ.1.1 Γ.1.2.1 dX3_partsIn_26 rfl (lv_at hl 2 rfl) ?_
        refine lv_aload_n Γ.1.1 Γ.1.2.1 dX3_partsIn_27 rfl (lv_at hl 1 rfl) ?_
        refine lv_iload Γ.1.1 Γ.1.2.1 dX3_partsIn_28 (lv_at hl 3 rfl) ?_
        refine lv_iload_n Γ.1.1 Γ.1.2.1 dX3_partsIn_30 rfl (lv_at hl 2 rfl) ?_
        obtain ⟨r_7, hr_7, h⟩ := ob_some h
        refine g_ci Γ hI (g_runV (As := [.int v4, .int v2]) Γ hI (S_X3_reachedFrom l X σ n hn v4 v2 r_7 hr_7) mf_X3_reachedFrom (recv_X3 hn Γ hI) gw_15 rfl rfl ⟨Nat.le_of_ble_eq_true rfl, Nat.le_of_ble_eq_true rfl⟩ rfl hl.1 rfl (Nat.le_of_ble_eq_true rfl) dX3_partsIn_31 ⟨Nat.zero_le _, Nat.zero_le _⟩) (fun H locs hI => ?_)
        clear hr_7
        refine lv_iconst (v := (-1 : Int32)) Γ.1.1 Γ.1.2.1 dX3_partsIn_34 (by decide) ?_
        refine lv_ixor Γ.1.1 Γ.1.2.1 dX3_partsIn_35 ?_
        refine lv_iand Γ.1.1 Γ.1.2.1 dX3_partsIn_36 ?_
        refine lv_topi (fun v2_9 e_v2_9 => ?_)
        replace h := nm_at e_v2_9 h; clear e_v2_9
        refine lv_istore_n (lv' := [(2, .int v2_9), (3, .int v3_6), (0, .ref (X.2.1 + n)), (4, .int v4)]) Γ.1.1 Γ.1.2.1 dX3_partsIn_37 rfl hl (by decide) rfl (fun ls hl => ?_)
        obtain ⟨v4_10, e_v4_10, h⟩ := nm_some h
        refine lv_iinc (v := v4_10) (lv' := [(4, .int v4_10), (2, .int v2_9), (3, .int v3_6), (0, .ref (X.2.1 + n))]) Γ.1.1 Γ.1.2.1 dX3_partsIn_38 hl (k := 3) rfl (by rw [e_v4_10]; rfl) (by decide) rfl (fun ls hl => ?_)
        clear e_v4_10
        refine lv_goto (tgt := 7) Γ.1.1 Γ.1.2.1 dX3_partsIn_41 (by decide) ?_
        exact ih v2_9 v3_6 v4_10 _ _ _ hI (lv_sub hl [3, 1, 2, 0] rfl) h
set_option maxRecDepth 20000 in
set_option maxHeartbeats 4000000 in
theorem S_X3_partsIn (l : Launch) (X : GX) (σ : GM) (n : Nat) (hn : sh n = (3, 0)) (v1 : Int32) (x : Int32) (h : f_X3_partsIn σ n v1 = some x) : gMet l yX3_partsIn cX3_partsIn 5 (some .int) ({ frames := 3, cells := 0, slots := 0, locals := 67 } : Room) X σ [.ref (X.2.1 + n), .int v1] (gQi X σ x) := by
  unfold f_X3_partsIn at h
  refine gMet_of (lv := [(0, .ref (X.2.1 + n)), (1, .int v1)]) (by decide) rfl (Nat.le_of_ble_eq_true rfl) rfl (fun p e s m below meth c H ls Γ hI hl => ?_)
  refine lv_iload_n Γ.1.1 Γ.1.2.1 dX3_partsIn_0 rfl (lv_at hl 1 rfl) ?_
  refine lv_istore_n (lv' := [(2, .int v1), (0, .ref (X.2.1 + n)), (1, .int v1)]) Γ.1.1 Γ.1.2.1 dX3_partsIn_1 rfl hl (by decide) rfl (fun ls hl => ?_)
  refine lv_iconst (v := (0 : Int32)) Γ.1.1 Γ.1.2.1 dX3_partsIn_2 (by decide) ?_
  refine lv_istore_n (lv' := [(3, .int (0 : Int32)), (2, .int v1), (0, .ref (X.2.1 + n)), (1, .int v1)]) Γ.1.1 Γ.1.2.1 dX3_partsIn_3 rfl hl (by decide) rfl (fun ls hl => ?_)
  refine lv_iconst (v := (0 : Int32)) Γ.1.1 Γ.1.2.1 dX3_partsIn_4 (by decide) ?_
  refine lv_istore (lv' := [(4, .int (0 : Int32)), (3, .int (0 : Int32)), (2, .int v1), (0, .ref (X.2.1 + n)), (1, .int v1)]) Γ.1.1 Γ.1.2.1 dX3_partsIn_5 hl (by decide) rfl (fun ls hl => ?_)
  exact s_X3_partsIn_L7 σ n hn x Γ _ v1 (0 : Int32) (0 : Int32) _ _ _ hI (lv_sub hl [3, 2, 1, 0] rfl) h
set_option maxRecDepth 20000 in
set_option maxHeartbeats 4000000 in
theorem s_X3_remove_L31 {p : Program} {l : Launch} {e : Env} {s : State} {m : MethodId} {args : Array Value} {below : List Frame} {meth : Method} {c : Code} {X : GX} (n : Nat) (hn : sh n = (3, 0)) (σr : GM) (x : Int32) (Γ : gC X p m meth c cX3_remove 3 s args RX3 (some .boolean)) :
    ∀ (σ : GM) (v1 : Int32) (H : Heap) (locs : List Loc) (ls : Array Slot), gI X σ s H locs → lv_has ls 3 [(0, .ref (X.2.1 + n)), (1, .int v1)] → f_X3_remove_L31 n σ v1 = some (σr, x) →
    W p l e ({ frames := 2, cells := 0, slots := 0, locals := 46 } : Room) s m args below meth c H locs 0 0 (MQ below (gQi X σr x) args s 0 0 (gA X)) (F0 m 31 ls []) := by
  intro σ v1 H locs ls hI hl h
  unfold f_X3_remove_L31 at h
  refine lv_aload_n Γ.1.1 Γ.1.2.1 dX3_remove_31 rfl (lv_at hl 0 rfl) ?_
  refine lv_dup Γ.1.1 Γ.1.2.1 dX3_remove_32 rfl ?_
  refine get_X3_there hn Γ hI gw_4 dX3_remove_33 ?_
  refine lv_iconst (v := (1 : Int32)) Γ.1.1 Γ.1.2.1 dX3_remove_36 (by decide) ?_
  refine lv_iload_n Γ.1.1 Γ.1.2.1 dX3_remove_37 rfl (lv_at hl 1 rfl) ?_
  refine lv_ishl Γ.1.1 Γ.1.2.1 dX3_remove_38 ?_
  refine lv_iconst (v := (-1 : Int32)) Γ.1.1 Γ.1.2.1 dX3_remove_39 (by decide) ?_
  refine lv_ixor Γ.1.1 Γ.1.2.1 dX3_remove_40 ?_
  refine lv_iand Γ.1.1 Γ.1.2.1 dX3_remove_41 ?_
  refine put_X3_there hn Γ hI gw_4 dX3_remove_42 (fun H locs hI => ?_)
  obtain ⟨σ_5, e_m_5, h⟩ := nm_some h
  rw [← e_m_5] at hI; clear e_m_5
  refine lv_iconst (v := (1 : Int32)) Γ.1.1 Γ.1.2.1 dX3_remove_45 (by decide) ?_
  exact g_zret Γ hI dX3_remove_46 (Prod.mk.inj (Option.some.inj h)).1 (Prod.mk.inj (Option.some.inj h)).2
set_option maxRecDepth 20000 in
set_option maxHeartbeats 4000000 in
theorem s_X3_remove_L12 {p : Program} {l : Launch} {e : Env} {s : State} {m : MethodId} {args : Array Value} {below : List Frame} {meth : Method} {c : Code} {X : GX} (n : Nat) (hn : sh n = (3, 0)) (σr : GM) (x : Int32) (Γ : gC X p m meth c cX3_remove 3 s args RX3 (some .boolean)) (v1 : Int32) :
    ∀ (k : Nat) (σ : GM) (v2 : Int32) (H : Heap) (locs : List Loc) (ls : Array Slot), gI X σ s H locs → lv_has ls 3 [(0, .ref (X.2.1 + n)), (1, .int v1), (2, .int v2)] → f_X3_remove_L12 n v1 k σ v2 = some (σr, x) →
    W p l e ({ frames := 2, cells := 0, slots := 0, locals := 46 } : Room) s m args below meth c H locs 0 0 (MQ below (gQi X σr x) args s 0 0 (gA X)) (F0 m 12 ls []) := by
  intro k
  induction k with
  | zero =>
    intro σ v2 H locs ls hI hl h
    exact absurd h (by simp [f_X3_remove_L12])
  | succ k ih =>
    intro σ v2 H locs ls hI hl h
    unfold f_X3_remove_L12 at h
    refine lv_iload_n Γ.1.1 Γ.1.2.1 dX3_remove_12 rfl (lv_at hl 2 rfl) ?_
    refine lv_bipush (v := (12 : Int32)) Γ.1.1 Γ.1.2.1 dX3_remove_13 (by decide) ?_
    refine lv_icmp_ge (tgt := 31) Γ.1.1 Γ.1.2.1 dX3_remove_15 (by decide) (fun c_4 => ?_) (fun c_4 => ?_)
    · replace h := ite_pos c_4 h; clear c_4
      exact s_X3_remove_L31 n hn σr x Γ σ v1 _ _ _ hI (lv_sub hl [0, 1] rfl) h
    · replace h := ite_neg c_4 h; clear c_4
      refine lv_aload_n Γ.1.1 Γ.1.2.1 dX3_remove_18 rfl (lv_at hl 0 rfl) ?_
      refine lv_iload_n Γ.1.1 Γ.1.2.1 dX3_remove_19 rfl (lv_at hl 1 rfl) ?_
      refine lv_iload_n Γ.1.1 Γ.1.2.1 dX3_remove_20 rfl (lv_at hl 2 rfl) ?_
      refine lv_iconst (v := (0 : Int32)) Γ.1.1 Γ.1.2.1 dX3_remove_21 (by decide) ?_
      obtain ⟨σ_7, hr_6, h⟩ := ob_some h
      refine g_cv Γ hI (g_runV (As := [.int v1, .int v2, .int (0 : Int32)]) Γ hI (S_X3_setLines l X σ n hn v1 v2 (0 : Int32) σ_7 hr_6) mf_X3_setLines (recv_X3 hn Γ hI) gw_17 rfl rfl ⟨Nat.le_of_ble_eq_true rfl, Nat.le_of_ble_eq_true rfl⟩ rfl hl.1 rfl (Nat.le_of_ble_eq_true rfl) dX3_remove_22 ⟨Nat.zero_le _, Nat.zero_le _⟩) (fun H locs hI => ?_)
      clear hr_6
      obtain ⟨v2_8, e_v2_8, h⟩ := nm_some h
      refine lv_iinc (v := v2_8) (lv' := [(2, .int v2_8), (0, .ref (X.2.1 + n)), (1, .int v1)]) Γ.1.1 Γ.1.2.1 dX3_remove_25 hl (k := 2) rfl (by rw [e_v2_8]; rfl) (by decide) rfl (fun ls hl => ?_)
      clear e_v2_8
      refine lv_goto (tgt := 12) Γ.1.1 Γ.1.2.1 dX3_remove_28 (by decide) ?_
      exact ih σ_7 v2_8 _ _ _ hI (lv_sub hl [1, 2, 0] rfl) h
set_option maxRecDepth 20000 in
set_option maxHeartbeats 4000000 in
theorem S_X3_remove (l : Launch) (X : GX) (σ : GM) (n : Nat) (hn : sh n = (3, 0)) (v1 : Int32) (σr : GM) (x : Int32) (h : f_X3_remove σ n v1 = some (σr, x)) : gMet l yX3_remove cX3_remove 3 (some .boolean) ({ frames := 2, cells := 0, slots := 0, locals := 46 } : Room) X σ [.ref (X.2.1 + n), .int v1] (gQi X σr x) := by
  unfold f_X3_remove at h
  refine gMet_of (lv := [(0, .ref (X.2.1 + n)), (1, .int v1)]) (by decide) rfl (Nat.le_of_ble_eq_true rfl) rfl (fun p e s m below meth c H ls Γ hI hl => ?_)
  refine lv_aload_n Γ.1.1 Γ.1.2.1 dX3_remove_0 rfl (lv_at hl 0 rfl) ?_
  refine lv_iload_n Γ.1.1 Γ.1.2.1 dX3_remove_1 rfl (lv_at hl 1 rfl) ?_
  obtain ⟨r_1, hr_1, h⟩ := ob_some h
  refine g_ci Γ hI (g_runV (As := [.int v1]) Γ hI (S_X3_isThere l X σ n hn v1 r_1 hr_1) mf_X3_isThere (recv_X3 hn Γ hI) gw_16 rfl rfl ⟨Nat.le_of_ble_eq_true rfl, Nat.le_of_ble_eq_true rfl⟩ rfl hl.1 rfl (Nat.le_of_ble_eq_true rfl) dX3_remove_2 ⟨Nat.zero_le _, Nat.zero_le _⟩) (fun H locs hI => ?_)
  clear hr_1
  refine lv_if_ne (tgt := 10) Γ.1.1 Γ.1.2.1 dX3_remove_5 (by decide) (fun c_3 => ?_) (fun c_3 => ?_)
  · replace h := ite_neg c_3 h; clear c_3
    refine lv_iconst (v := (0 : Int32)) Γ.1.1 Γ.1.2.1 dX3_remove_10 (by decide) ?_
    refine lv_istore_n (lv' := [(2, .int (0 : Int32)), (0, .ref (X.2.1 + n)), (1, .int v1)]) Γ.1.1 Γ.1.2.1 dX3_remove_11 rfl hl (by decide) rfl (fun ls hl => ?_)
    exact s_X3_remove_L12 n hn σr x Γ v1 _ σ (0 : Int32) _ _ _ hI (lv_sub hl [1, 2, 0] rfl) h
  · replace h := ite_pos c_3 h; clear c_3
    refine lv_iconst (v := (0 : Int32)) Γ.1.1 Γ.1.2.1 dX3_remove_8 (by decide) ?_
    exact g_zret Γ hI dX3_remove_9 (Prod.mk.inj (Option.some.inj h)).1 (Prod.mk.inj (Option.some.inj h)).2
set_option maxRecDepth 20000 in
set_option maxHeartbeats 4000000 in
theorem s_X3_addLine_L37 {p : Program} {l : Launch} {e : Env} {s : State} {m : MethodId} {args : Array Value} {below : List Frame} {meth : Method} {c : Code} {X : GX} (n : Nat) (hn : sh n = (3, 0)) (σr : GM) (x : Int32) (Γ : gC X p m meth c cX3_addLine 4 s args RX3 (some .boolean)) :
    ∀ (σ : GM) (v1 : Int32) (v2 : Int32) (s0 : Int32) (H : Heap) (locs : List Loc) (ls : Array Slot), gI X σ s H locs → lv_has ls 4 [(0, .ref (X.2.1 + n)), (1, .int v1), (2, .int v2)] → f_X3_addLine_L37 n σ v1 v2 s0 = some (σr, x) →
    W p l e ({ frames := 2, cells := 0, slots := 0, locals := 47 } : Room) s m args below meth c H locs 0 0 (MQ below (gQi X σr x) args s 0 0 (gA X)) (F0 m 37 ls [.int s0]) := by
  intro σ v1 v2 s0 H locs ls hI hl h
  unfold f_X3_addLine_L37 at h
  refine lv_istore_n (lv' := [(3, .int s0), (0, .ref (X.2.1 + n)), (1, .int v1), (2, .int v2)]) Γ.1.1 Γ.1.2.1 dX3_addLine_37 rfl hl (by decide) rfl (fun ls hl => ?_)
  refine lv_aload_n Γ.1.1 Γ.1.2.1 dX3_addLine_38 rfl (lv_at hl 1 rfl) ?_
  refine lv_iload_n Γ.1.1 Γ.1.2.1 dX3_addLine_39 rfl (lv_at hl 2 rfl) ?_
  refine lv_aload_n Γ.1.1 Γ.1.2.1 dX3_addLine_40 rfl (lv_at hl 1 rfl) ?_
  refine get_X3_there hn Γ hI gw_4 dX3_addLine_41 ?_
  obtain ⟨r_9, hr_9, h⟩ := ob_some h
  refine g_ci Γ hI (g_runV (As := [.int v1, .int (σ.1 n 3)]) Γ hI (S_X3_endsIn l X σ n hn v1 (σ.1 n 3) r_9 hr_9) mf_X3_endsIn (recv_X3 hn Γ hI) gw_12 rfl rfl ⟨Nat.le_of_ble_eq_true rfl, Nat.le_of_ble_eq_true rfl⟩ rfl hl.1 rfl (Nat.le_of_ble_eq_true rfl) dX3_addLine_44 ⟨Nat.zero_le _, Nat.zero_le _⟩) (fun H locs hI => ?_)
  clear hr_9
  refine lv_iload_n Γ.1.1 Γ.1.2.1 dX3_addLine_47 rfl (lv_at hl 0 rfl) ?_
  refine lv_iadd Γ.1.1 Γ.1.2.1 dX3_addLine_48 ?_
  refine lv_bipush (v := (6 : Int32)) Γ.1.1 Γ.1.2.1 dX3_addLine_49 (by decide) ?_
  refine lv_icmp_gt (tgt := 70) Γ.1.1 Γ.1.2.1 dX3_addLine_51 (by decide) (fun c_11 => ?_) (fun c_11 => ?_)
  · replace h := ite_pos c_11 h; clear c_11
    refine lv_iconst (v := (0 : Int32)) Γ.1.1 Γ.1.2.1 dX3_addLine_70 (by decide) ?_
    exact g_zret Γ hI dX3_addLine_71 (Prod.mk.inj (Option.some.inj h)).1 (Prod.mk.inj (Option.some.inj h)).2
  · replace h := ite_neg c_11 h; clear c_11
    refine lv_aload_n Γ.1.1 Γ.1.2.1 dX3_addLine_54 rfl (lv_at hl 1 rfl) ?_
    refine lv_iload_n Γ.1.1 Γ.1.2.1 dX3_addLine_55 rfl (lv_at hl 3 rfl) ?_
    refine lv_aload_n Γ.1.1 Γ.1.2.1 dX3_addLine_56 rfl (lv_at hl 1 rfl) ?_
    refine get_X3_there hn Γ hI gw_4 dX3_addLine_57 ?_
    obtain ⟨r_12, hr_12, h⟩ := ob_some h
    refine g_ci Γ hI (g_runV (As := [.int v2, .int (σ.1 n 3)]) Γ hI (S_X3_endsIn l X σ n hn v2 (σ.1 n 3) r_12 hr_12) mf_X3_endsIn (recv_X3 hn Γ hI) gw_12 rfl rfl ⟨Nat.le_of_ble_eq_true rfl, Nat.le_of_ble_eq_true rfl⟩ rfl hl.1 rfl (Nat.le_of_ble_eq_true rfl) dX3_addLine_60 ⟨Nat.zero_le _, Nat.zero_le _⟩) (fun H locs hI => ?_)
    clear hr_12
    refine lv_iload_n Γ.1.1 Γ.1.2.1 dX3_addLine_63 rfl (lv_at hl 0 rfl) ?_
    refine lv_iadd Γ.1.1 Γ.1.2.1 dX3_addLine_64 ?_
    refine lv_bipush (v := (6 : Int32)) Γ.1.1 Γ.1.2.1 dX3_addLine_65 (by decide) ?_
    refine lv_icmp_le (tgt := 72) Γ.1.1 Γ.1.2.1 dX3_addLine_67 (by decide) (fun c_14 => ?_) (fun c_14 => ?_)
    · replace h := ite_pos c_14 h; clear c_14
      refine lv_aload_n Γ.1.1 Γ.1.2.1 dX3_addLine_72 rfl (lv_at hl 1 rfl) ?_
      refine lv_iload_n Γ.1.1 Γ.1.2.1 dX3_addLine_73 rfl (lv_at hl 2 rfl) ?_
      refine lv_iload_n Γ.1.1 Γ.1.2.1 dX3_addLine_74 rfl (lv_at hl 3 rfl) ?_
      refine lv_aload_n Γ.1.1 Γ.1.2.1 dX3_addLine_75 rfl (lv_at hl 1 rfl) ?_
      refine lv_iload_n Γ.1.1 Γ.1.2.1 dX3_addLine_76 rfl (lv_at hl 2 rfl) ?_
      refine lv_iload_n Γ.1.1 Γ.1.2.1 dX3_addLine_77 rfl (lv_at hl 3 rfl) ?_
      obtain ⟨r_15, hr_15, h⟩ := ob_some h
      refine g_ci Γ hI (g_runV (As := [.int v1, .int v2]) Γ hI (S_X3_linesOf l X σ n hn v1 v2 r_15 hr_15) mf_X3_linesOf (recv_X3 hn Γ hI) gw_11 rfl rfl ⟨Nat.le_of_ble_eq_true rfl, Nat.le_of_ble_eq_true rfl⟩ rfl hl.1 rfl (Nat.le_of_ble_eq_true rfl) dX3_addLine_78 ⟨Nat.zero_le _, Nat.zero_le _⟩) (fun H locs hI => ?_)
      clear hr_15
      refine lv_iconst (v := (1 : Int32)) Γ.1.1 Γ.1.2.1 dX3_addLine_81 (by decide) ?_
      refine lv_iadd Γ.1.1 Γ.1.2.1 dX3_addLine_82 ?_
      obtain ⟨σ_18, hr_17, h⟩ := ob_some h
      refine g_cv Γ hI (g_runV (As := [.int v1, .int v2, .int (r_15 + (1 : Int32))]) Γ hI (S_X3_setLines l X σ n hn v1 v2 (r_15 + (1 : Int32)) σ_18 hr_17) mf_X3_setLines (recv_X3 hn Γ hI) gw_17 rfl rfl ⟨Nat.le_of_ble_eq_true rfl, Nat.le_of_ble_eq_true rfl⟩ rfl hl.1 rfl (Nat.le_of_ble_eq_true rfl) dX3_addLine_83 ⟨Nat.zero_le _, Nat.zero_le _⟩) (fun H locs hI => ?_)
      clear hr_17
      refine lv_iconst (v := (1 : Int32)) Γ.1.1 Γ.1.2.1 dX3_addLine_86 (by decide) ?_
      exact g_zret Γ hI dX3_addLine_87 (Prod.mk.inj (Option.some.inj h)).1 (Prod.mk.inj (Option.some.inj h)).2
    · replace h := ite_neg c_14 h; clear c_14
      refine lv_iconst (v := (0 : Int32)) Γ.1.1 Γ.1.2.1 dX3_addLine_70 (by decide) ?_
      exact g_zret Γ hI dX3_addLine_71 (Prod.mk.inj (Option.some.inj h)).1 (Prod.mk.inj (Option.some.inj h)).2
set_option maxRecDepth 20000 in
set_option maxHeartbeats 4000000 in
theorem S_X3_addLine (l : Launch) (X : GX) (σ : GM) (n : Nat) (hn : sh n = (3, 0)) (v1 : Int32) (v2 : Int32) (σr : GM) (x : Int32) (h : f_X3_addLine σ n v1 v2 = some (σr, x)) : gMet l yX3_addLine cX3_addLine 4 (some .boolean) ({ frames := 2, cells := 0, slots := 0, locals := 47 } : Room) X σ [.ref (X.2.1 + n), .int v1, .int v2] (gQi X σr x) := by
  unfold f_X3_addLine at h
  refine gMet_of (lv := [(0, .ref (X.2.1 + n)), (1, .int v1), (2, .int v2)]) (by decide) rfl (Nat.le_of_ble_eq_true rfl) rfl (fun p e s m below meth c H ls Γ hI hl => ?_)
  refine lv_aload_n Γ.1.1 Γ.1.2.1 dX3_addLine_0 rfl (lv_at hl 0 rfl) ?_
  refine lv_iload_n Γ.1.1 Γ.1.2.1 dX3_addLine_1 rfl (lv_at hl 1 rfl) ?_
  obtain ⟨r_1, hr_1, h⟩ := ob_some h
  refine g_ci Γ hI (g_runV (As := [.int v1]) Γ hI (S_X3_isThere l X σ n hn v1 r_1 hr_1) mf_X3_isThere (recv_X3 hn Γ hI) gw_16 rfl rfl ⟨Nat.le_of_ble_eq_true rfl, Nat.le_of_ble_eq_true rfl⟩ rfl hl.1 rfl (Nat.le_of_ble_eq_true rfl) dX3_addLine_2 ⟨Nat.zero_le _, Nat.zero_le _⟩) (fun H locs hI => ?_)
  clear hr_1
  refine lv_if_eq (tgt := 25) Γ.1.1 Γ.1.2.1 dX3_addLine_5 (by decide) (fun c_3 => ?_) (fun c_3 => ?_)
  · replace h := ite_pos c_3 h; clear c_3
    refine lv_iconst (v := (0 : Int32)) Γ.1.1 Γ.1.2.1 dX3_addLine_25 (by decide) ?_
    exact g_zret Γ hI dX3_addLine_26 (Prod.mk.inj (Option.some.inj h)).1 (Prod.mk.inj (Option.some.inj h)).2
  · replace h := ite_neg c_3 h; clear c_3
    refine lv_aload_n Γ.1.1 Γ.1.2.1 dX3_addLine_8 rfl (lv_at hl 0 rfl) ?_
    refine lv_iload_n Γ.1.1 Γ.1.2.1 dX3_addLine_9 rfl (lv_at hl 2 rfl) ?_
    obtain ⟨r_4, hr_4, h⟩ := ob_some h
    refine g_ci Γ hI (g_runV (As := [.int v2]) Γ hI (S_X3_isThere l X σ n hn v2 r_4 hr_4) mf_X3_isThere (recv_X3 hn Γ hI) gw_16 rfl rfl ⟨Nat.le_of_ble_eq_true rfl, Nat.le_of_ble_eq_true rfl⟩ rfl hl.1 rfl (Nat.le_of_ble_eq_true rfl) dX3_addLine_10 ⟨Nat.zero_le _, Nat.zero_le _⟩) (fun H locs hI => ?_)
    clear hr_4
    refine lv_if_eq (tgt := 25) Γ.1.1 Γ.1.2.1 dX3_addLine_13 (by decide) (fun c_6 => ?_) (fun c_6 => ?_)
    · replace h := ite_pos c_6 h; clear c_6
      refine lv_iconst (v := (0 : Int32)) Γ.1.1 Γ.1.2.1 dX3_addLine_25 (by decide) ?_
      exact g_zret Γ hI dX3_addLine_26 (Prod.mk.inj (Option.some.inj h)).1 (Prod.mk.inj (Option.some.inj h)).2
    · replace h := ite_neg c_6 h; clear c_6
      refine lv_aload_n Γ.1.1 Γ.1.2.1 dX3_addLine_16 rfl (lv_at hl 0 rfl) ?_
      refine get_X3_lineCount hn Γ hI gw_6 dX3_addLine_17 ?_
      refine lv_bipush (v := (20 : Int32)) Γ.1.1 Γ.1.2.1 dX3_addLine_20 (by decide) ?_
      refine lv_icmp_lt (tgt := 27) Γ.1.1 Γ.1.2.1 dX3_addLine_22 (by decide) (fun c_7 => ?_) (fun c_7 => ?_)
      · replace h := ite_pos c_7 h; clear c_7
        refine lv_iload_n Γ.1.1 Γ.1.2.1 dX3_addLine_27 rfl (lv_at hl 1 rfl) ?_
        refine lv_iload_n Γ.1.1 Γ.1.2.1 dX3_addLine_28 rfl (lv_at hl 2 rfl) ?_
        refine lv_icmp_ne (tgt := 36) Γ.1.1 Γ.1.2.1 dX3_addLine_29 (by decide) (fun c_8 => ?_) (fun c_8 => ?_)
        · replace h := ite_neg c_8 h; clear c_8
          refine lv_iconst (v := (1 : Int32)) Γ.1.1 Γ.1.2.1 dX3_addLine_36 (by decide) ?_
          exact s_X3_addLine_L37 n hn σr x Γ σ v1 v2 (1 : Int32) _ _ _ hI hl h
        · replace h := ite_pos c_8 h; clear c_8
          refine lv_iconst (v := (2 : Int32)) Γ.1.1 Γ.1.2.1 dX3_addLine_32 (by decide) ?_
          refine lv_goto (tgt := 37) Γ.1.1 Γ.1.2.1 dX3_addLine_33 (by decide) ?_
          exact s_X3_addLine_L37 n hn σr x Γ σ v1 v2 (2 : Int32) _ _ _ hI hl h
      · replace h := ite_neg c_7 h; clear c_7
        refine lv_iconst (v := (0 : Int32)) Γ.1.1 Γ.1.2.1 dX3_addLine_25 (by decide) ?_
        exact g_zret Γ hI dX3_addLine_26 (Prod.mk.inj (Option.some.inj h)).1 (Prod.mk.inj (Option.some.inj h)).2
set_option maxRecDepth 20000 in
set_option maxHeartbeats 4000000 in
theorem S_X3_takeLine (l : Launch) (X : GX) (σ : GM) (n : Nat) (hn : sh n = (3, 0)) (v1 : Int32) (v2 : Int32) (σr : GM) (x : Int32) (h : f_X3_takeLine σ n v1 v2 = some (σr, x)) : gMet l yX3_takeLine cX3_takeLine 3 (some .boolean) ({ frames := 2, cells := 0, slots := 0, locals := 46 } : Room) X σ [.ref (X.2.1 + n), .int v1, .int v2] (gQi X σr x) := by
  unfold f_X3_takeLine at h
  refine gMet_of (lv := [(0, .ref (X.2.1 + n)), (1, .int v1), (2, .int v2)]) (by decide) rfl (Nat.le_of_ble_eq_true rfl) rfl (fun p e s m below meth c H ls Γ hI hl => ?_)
  refine lv_aload_n Γ.1.1 Γ.1.2.1 dX3_takeLine_0 rfl (lv_at hl 0 rfl) ?_
  refine lv_iload_n Γ.1.1 Γ.1.2.1 dX3_takeLine_1 rfl (lv_at hl 1 rfl) ?_
  obtain ⟨r_1, hr_1, h⟩ := ob_some h
  refine g_ci Γ hI (g_runV (As := [.int v1]) Γ hI (S_X3_isThere l X σ n hn v1 r_1 hr_1) mf_X3_isThere (recv_X3 hn Γ hI) gw_16 rfl rfl ⟨Nat.le_of_ble_eq_true rfl, Nat.le_of_ble_eq_true rfl⟩ rfl hl.1 rfl (Nat.le_of_ble_eq_true rfl) dX3_takeLine_2 ⟨Nat.zero_le _, Nat.zero_le _⟩) (fun H locs hI => ?_)
  clear hr_1
  refine lv_if_eq (tgt := 25) Γ.1.1 Γ.1.2.1 dX3_takeLine_5 (by decide) (fun c_3 => ?_) (fun c_3 => ?_)
  · replace h := ite_pos c_3 h; clear c_3
    refine lv_iconst (v := (0 : Int32)) Γ.1.1 Γ.1.2.1 dX3_takeLine_25 (by decide) ?_
    exact g_zret Γ hI dX3_takeLine_26 (Prod.mk.inj (Option.some.inj h)).1 (Prod.mk.inj (Option.some.inj h)).2
  · replace h := ite_neg c_3 h; clear c_3
    refine lv_aload_n Γ.1.1 Γ.1.2.1 dX3_takeLine_8 rfl (lv_at hl 0 rfl) ?_
    refine lv_iload_n Γ.1.1 Γ.1.2.1 dX3_takeLine_9 rfl (lv_at hl 2 rfl) ?_
    obtain ⟨r_4, hr_4, h⟩ := ob_some h
    refine g_ci Γ hI (g_runV (As := [.int v2]) Γ hI (S_X3_isThere l X σ n hn v2 r_4 hr_4) mf_X3_isThere (recv_X3 hn Γ hI) gw_16 rfl rfl ⟨Nat.le_of_ble_eq_true rfl, Nat.le_of_ble_eq_true rfl⟩ rfl hl.1 rfl (Nat.le_of_ble_eq_true rfl) dX3_takeLine_10 ⟨Nat.zero_le _, Nat.zero_le _⟩) (fun H locs hI => ?_)
    clear hr_4
    refine lv_if_eq (tgt := 25) Γ.1.1 Γ.1.2.1 dX3_takeLine_13 (by decide) (fun c_6 => ?_) (fun c_6 => ?_)
    · replace h := ite_pos c_6 h; clear c_6
      refine lv_iconst (v := (0 : Int32)) Γ.1.1 Γ.1.2.1 dX3_takeLine_25 (by decide) ?_
      exact g_zret Γ hI dX3_takeLine_26 (Prod.mk.inj (Option.some.inj h)).1 (Prod.mk.inj (Option.some.inj h)).2
    · replace h := ite_neg c_6 h; clear c_6
      refine lv_aload_n Γ.1.1 Γ.1.2.1 dX3_takeLine_16 rfl (lv_at hl 0 rfl) ?_
      refine lv_iload_n Γ.1.1 Γ.1.2.1 dX3_takeLine_17 rfl (lv_at hl 1 rfl) ?_
      refine lv_iload_n Γ.1.1 Γ.1.2.1 dX3_takeLine_18 rfl (lv_at hl 2 rfl) ?_
      obtain ⟨r_7, hr_7, h⟩ := ob_some h
      refine g_ci Γ hI (g_runV (As := [.int v1, .int v2]) Γ hI (S_X3_linesOf l X σ n hn v1 v2 r_7 hr_7) mf_X3_linesOf (recv_X3 hn Γ hI) gw_11 rfl rfl ⟨Nat.le_of_ble_eq_true rfl, Nat.le_of_ble_eq_true rfl⟩ rfl hl.1 rfl (Nat.le_of_ble_eq_true rfl) dX3_takeLine_19 ⟨Nat.zero_le _, Nat.zero_le _⟩) (fun H locs hI => ?_)
      clear hr_7
      refine lv_if_gt (tgt := 27) Γ.1.1 Γ.1.2.1 dX3_takeLine_22 (by decide) (fun c_9 => ?_) (fun c_9 => ?_)
      · replace h := ite_pos c_9 h; clear c_9
        refine lv_aload_n Γ.1.1 Γ.1.2.1 dX3_takeLine_27 rfl (lv_at hl 0 rfl) ?_
        refine lv_iload_n Γ.1.1 Γ.1.2.1 dX3_takeLine_28 rfl (lv_at hl 1 rfl) ?_
        refine lv_iload_n Γ.1.1 Γ.1.2.1 dX3_takeLine_29 rfl (lv_at hl 2 rfl) ?_
        refine lv_aload_n Γ.1.1 Γ.1.2.1 dX3_takeLine_30 rfl (lv_at hl 0 rfl) ?_
        refine lv_iload_n Γ.1.1 Γ.1.2.1 dX3_takeLine_31 rfl (lv_at hl 1 rfl) ?_
        refine lv_iload_n Γ.1.1 Γ.1.2.1 dX3_takeLine_32 rfl (lv_at hl 2 rfl) ?_
        obtain ⟨r_10, hr_10, h⟩ := ob_some h
        refine g_ci Γ hI (g_runV (As := [.int v1, .int v2]) Γ hI (S_X3_linesOf l X σ n hn v1 v2 r_10 hr_10) mf_X3_linesOf (recv_X3 hn Γ hI) gw_11 rfl rfl ⟨Nat.le_of_ble_eq_true rfl, Nat.le_of_ble_eq_true rfl⟩ rfl hl.1 rfl (Nat.le_of_ble_eq_true rfl) dX3_takeLine_33 ⟨Nat.zero_le _, Nat.zero_le _⟩) (fun H locs hI => ?_)
        clear hr_10
        refine lv_iconst (v := (1 : Int32)) Γ.1.1 Γ.1.2.1 dX3_takeLine_36 (by decide) ?_
        refine lv_isub Γ.1.1 Γ.1.2.1 dX3_takeLine_37 ?_
        obtain ⟨σ_13, hr_12, h⟩ := ob_some h
        refine g_cv Γ hI (g_runV (As := [.int v1, .int v2, .int (r_10 - (1 : Int32))]) Γ hI (S_X3_setLines l X σ n hn v1 v2 (r_10 - (1 : Int32)) σ_13 hr_12) mf_X3_setLines (recv_X3 hn Γ hI) gw_17 rfl rfl ⟨Nat.le_of_ble_eq_true rfl, Nat.le_of_ble_eq_true rfl⟩ rfl hl.1 rfl (Nat.le_of_ble_eq_true rfl) dX3_takeLine_38 ⟨Nat.zero_le _, Nat.zero_le _⟩) (fun H locs hI => ?_)
        clear hr_12
        refine lv_iconst (v := (1 : Int32)) Γ.1.1 Γ.1.2.1 dX3_takeLine_41 (by decide) ?_
        exact g_zret Γ hI dX3_takeLine_42 (Prod.mk.inj (Option.some.inj h)).1 (Prod.mk.inj (Option.some.inj h)).2
      · replace h := ite_neg c_9 h; clear c_9
        refine lv_iconst (v := (0 : Int32)) Γ.1.1 Γ.1.2.1 dX3_takeLine_25 (by decide) ?_
        exact g_zret Γ hI dX3_takeLine_26 (Prod.mk.inj (Option.some.inj h)).1 (Prod.mk.inj (Option.some.inj h)).2
set_option maxRecDepth 20000 in
set_option maxHeartbeats 4000000 in
theorem S_X3_changeWeight (l : Launch) (X : GX) (σ : GM) (n : Nat) (hn : sh n = (3, 0)) (v1 : Int32) (v2 : Int32) (σr : GM) (x : Int32) (h : f_X3_changeWeight σ n v1 v2 = some (σr, x)) : gMet l yX3_changeWeight cX3_changeWeight 3 (some .boolean) ({ frames := 2, cells := 0, slots := 0, locals := 42 } : Room) X σ [.ref (X.2.1 + n), .int v1, .int v2] (gQi X σr x) := by
  unfold f_X3_changeWeight at h
  refine gMet_of (lv := [(0, .ref (X.2.1 + n)), (1, .int v1), (2, .int v2)]) (by decide) rfl (Nat.le_of_ble_eq_true rfl) rfl (fun p e s m below meth c H ls Γ hI hl => ?_)
  refine lv_aload_n Γ.1.1 Γ.1.2.1 dX3_changeWeight_0 rfl (lv_at hl 0 rfl) ?_
  refine lv_iload_n Γ.1.1 Γ.1.2.1 dX3_changeWeight_1 rfl (lv_at hl 1 rfl) ?_
  obtain ⟨r_1, hr_1, h⟩ := ob_some h
  refine g_ci Γ hI (g_runV (As := [.int v1]) Γ hI (S_X3_isThere l X σ n hn v1 r_1 hr_1) mf_X3_isThere (recv_X3 hn Γ hI) gw_16 rfl rfl ⟨Nat.le_of_ble_eq_true rfl, Nat.le_of_ble_eq_true rfl⟩ rfl hl.1 rfl (Nat.le_of_ble_eq_true rfl) dX3_changeWeight_2 ⟨Nat.zero_le _, Nat.zero_le _⟩) (fun H locs hI => ?_)
  clear hr_1
  refine lv_if_eq (tgt := 27) Γ.1.1 Γ.1.2.1 dX3_changeWeight_5 (by decide) (fun c_3 => ?_) (fun c_3 => ?_)
  · replace h := ite_pos c_3 h; clear c_3
    refine lv_iconst (v := (0 : Int32)) Γ.1.1 Γ.1.2.1 dX3_changeWeight_27 (by decide) ?_
    exact g_zret Γ hI dX3_changeWeight_28 (Prod.mk.inj (Option.some.inj h)).1 (Prod.mk.inj (Option.some.inj h)).2
  · replace h := ite_neg c_3 h; clear c_3
    refine lv_iload_n Γ.1.1 Γ.1.2.1 dX3_changeWeight_8 rfl (lv_at hl 1 rfl) ?_
    refine lv_aload_n Γ.1.1 Γ.1.2.1 dX3_changeWeight_9 rfl (lv_at hl 0 rfl) ?_
    refine get_X3_weights hn Γ hI gw_8 dX3_changeWeight_10 ?_
    refine g_alen Γ hI (shN1 hn).1 (by decide) (v := (12 : Int32)) (by decide) dX3_changeWeight_13 ?_
    refine lv_icmp_ge (tgt := 27) Γ.1.1 Γ.1.2.1 dX3_changeWeight_14 (by decide) (fun c_4 => ?_) (fun c_4 => ?_)
    · replace h := ite_pos c_4 h; clear c_4
      refine lv_iconst (v := (0 : Int32)) Γ.1.1 Γ.1.2.1 dX3_changeWeight_27 (by decide) ?_
      exact g_zret Γ hI dX3_changeWeight_28 (Prod.mk.inj (Option.some.inj h)).1 (Prod.mk.inj (Option.some.inj h)).2
    · replace h := ite_neg c_4 h; clear c_4
      refine lv_aload_n Γ.1.1 Γ.1.2.1 dX3_changeWeight_17 rfl (lv_at hl 0 rfl) ?_
      refine get_X3_weights hn Γ hI gw_8 dX3_changeWeight_18 ?_
      refine lv_iload_n Γ.1.1 Γ.1.2.1 dX3_changeWeight_21 rfl (lv_at hl 1 rfl) ?_
      obtain ⟨hb_5, h⟩ := bnd_some h
      refine g_iald Γ hI (shN1 hn).1 hb_5 dX3_changeWeight_22 ?_
      refine lv_iload_n Γ.1.1 Γ.1.2.1 dX3_changeWeight_23 rfl (lv_at hl 2 rfl) ?_
      refine lv_icmp_ne (tgt := 29) Γ.1.1 Γ.1.2.1 dX3_changeWeight_24 (by decide) (fun c_6 => ?_) (fun c_6 => ?_)
      · replace h := ite_neg c_6 h; clear c_6
        refine lv_aload_n Γ.1.1 Γ.1.2.1 dX3_changeWeight_29 rfl (lv_at hl 0 rfl) ?_
        refine get_X3_weights hn Γ hI gw_8 dX3_changeWeight_30 ?_
        refine lv_iload_n Γ.1.1 Γ.1.2.1 dX3_changeWeight_33 rfl (lv_at hl 1 rfl) ?_
        refine lv_iload_n Γ.1.1 Γ.1.2.1 dX3_changeWeight_34 rfl (lv_at hl 2 rfl) ?_
        obtain ⟨hb_7, h⟩ := bnd_some h
        refine g_iast Γ hI (shN1 hn).1 hb_7 dX3_changeWeight_35 (fun H locs hI => ?_)
        obtain ⟨σ_8, e_m_8, h⟩ := nm_some h
        rw [← e_m_8] at hI; clear e_m_8
        refine lv_iconst (v := (1 : Int32)) Γ.1.1 Γ.1.2.1 dX3_changeWeight_36 (by decide) ?_
        exact g_zret Γ hI dX3_changeWeight_37 (Prod.mk.inj (Option.some.inj h)).1 (Prod.mk.inj (Option.some.inj h)).2
      · replace h := ite_pos c_6 h; clear c_6
        refine lv_iconst (v := (0 : Int32)) Γ.1.1 Γ.1.2.1 dX3_changeWeight_27 (by decide) ?_
        exact g_zret Γ hI dX3_changeWeight_28 (Prod.mk.inj (Option.some.inj h)).1 (Prod.mk.inj (Option.some.inj h)).2
set_option maxRecDepth 20000 in
set_option maxHeartbeats 4000000 in
theorem s_X0_begin_L29 {p : Program} {l : Launch} {e : Env} {s : State} {m : MethodId} {args : Array Value} {below : List Frame} {meth : Method} {c : Code} {X : GX} (σr : GM) (Γ : gC X p m meth c cX0_begin 3 s args RX0 none) :
    ∀ (σ : GM) (H : Heap) (locs : List Loc) (ls : Array Slot), gI X σ s H locs → lv_has ls 3 [(0, .ref (X.2.1 + 57)), (1, .ref (X.2.1 + 8))] → f_X0_begin_L29 σ = some σr →
    W p l e ({ frames := 1, cells := 0, slots := 0, locals := 21 } : Room) s m args below meth c H locs 0 0 (MQ below (gQv X σr) args s 0 0 (gA X)) (F0 m 29 ls []) := by
  intro σ H locs ls hI hl h
  unfold f_X0_begin_L29 at h
  refine lv_aload_n Γ.1.1 Γ.1.2.1 dX0_begin_29 rfl (lv_at hl 0 rfl) ?_
  refine lv_aload_n Γ.1.1 Γ.1.2.1 dX0_begin_30 rfl (lv_at hl 1 rfl) ?_
  refine get_X3_there sh_8 Γ hI gw_19 dX0_begin_31 ?_
  refine put_X0_left Γ hI gw_20 dX0_begin_34 (fun H locs hI => ?_)
  obtain ⟨σ_2, e_m_2, h⟩ := nm_some h
  rw [← e_m_2] at hI; clear e_m_2
  refine lv_aload_n Γ.1.1 Γ.1.2.1 dX0_begin_37 rfl (lv_at hl 0 rfl) ?_
  refine lv_iconst (v := (0 : Int32)) Γ.1.1 Γ.1.2.1 dX0_begin_38 (by decide) ?_
  refine put_X0_piled Γ hI gw_21 dX0_begin_39 (fun H locs hI => ?_)
  obtain ⟨σ_3, e_m_3, h⟩ := nm_some h
  rw [← e_m_3] at hI; clear e_m_3
  refine lv_aload_n Γ.1.1 Γ.1.2.1 dX0_begin_42 rfl (lv_at hl 0 rfl) ?_
  refine lv_lconst (v := (0 : Int64)) Γ.1.1 Γ.1.2.1 dX0_begin_43 (by decide) ?_
  refine put_X0_sum Γ hI gw_22 dX0_begin_44 (fun H locs hI => ?_)
  obtain ⟨σ_4, e_m_4, h⟩ := nm_some h
  rw [← e_m_4] at hI; clear e_m_4
  refine lv_aload_n Γ.1.1 Γ.1.2.1 dX0_begin_47 rfl (lv_at hl 0 rfl) ?_
  refine lv_lconst (v := (1 : Int64)) Γ.1.1 Γ.1.2.1 dX0_begin_48 (by decide) ?_
  refine put_X0_below Γ hI gw_23 dX0_begin_49 (fun H locs hI => ?_)
  obtain ⟨σ_5, e_m_5, h⟩ := nm_some h
  rw [← e_m_5] at hI; clear e_m_5
  exact g_vret Γ hI dX0_begin_52 (Option.some.inj h)
set_option maxRecDepth 20000 in
set_option maxHeartbeats 4000000 in
theorem s_X0_begin_L2 {p : Program} {l : Launch} {e : Env} {s : State} {m : MethodId} {args : Array Value} {below : List Frame} {meth : Method} {c : Code} {X : GX} (σr : GM) (Γ : gC X p m meth c cX0_begin 3 s args RX0 none) :
    ∀ (k : Nat) (σ : GM) (v2 : Int32) (H : Heap) (locs : List Loc) (ls : Array Slot), gI X σ s H locs → lv_has ls 3 [(0, .ref (X.2.1 + 57)), (1, .ref (X.2.1 + 8)), (2, .int v2)] → f_X0_begin_L2 k σ v2 = some σr →
    W p l e ({ frames := 1, cells := 0, slots := 0, locals := 21 } : Room) s m args below meth c H locs 0 0 (MQ below (gQv X σr) args s 0 0 (gA X)) (F0 m 2 ls []) := by
  intro k
  induction k with
  | zero =>
    intro σ v2 H locs ls hI hl h
    exact absurd h (by simp [f_X0_begin_L2])
  | succ k ih =>
    intro σ v2 H locs ls hI hl h
    unfold f_X0_begin_L2 at h
    refine lv_iload_n Γ.1.1 Γ.1.2.1 dX0_begin_2 rfl (lv_at hl 2 rfl) ?_
    refine lv_aload_n Γ.1.1 Γ.1.2.1 dX0_begin_3 rfl (lv_at hl 0 rfl) ?_
    refine get_X0_weights Γ hI gw_18 dX0_begin_4 ?_
    refine g_alen Γ hI sh_58 (by decide) (v := (12 : Int32)) (by decide) dX0_begin_7 ?_
    refine lv_icmp_ge (tgt := 29) Γ.1.1 Γ.1.2.1 dX0_begin_8 (by decide) (fun c_1 => ?_) (fun c_1 => ?_)
    · replace h := ite_pos c_1 h; clear c_1
      exact s_X0_begin_L29 σr Γ σ _ _ _ hI (lv_sub hl [0, 1] rfl) h
    · replace h := ite_neg c_1 h; clear c_1
      refine lv_aload_n Γ.1.1 Γ.1.2.1 dX0_begin_11 rfl (lv_at hl 0 rfl) ?_
      refine get_X0_weights Γ hI gw_18 dX0_begin_12 ?_
      refine lv_iload_n Γ.1.1 Γ.1.2.1 dX0_begin_15 rfl (lv_at hl 2 rfl) ?_
      refine lv_aload_n Γ.1.1 Γ.1.2.1 dX0_begin_16 rfl (lv_at hl 1 rfl) ?_
      refine lv_iload_n Γ.1.1 Γ.1.2.1 dX0_begin_17 rfl (lv_at hl 2 rfl) ?_
      obtain ⟨r_6, hr_6, h⟩ := ob_some h
      refine g_ci Γ hI (g_runV (As := [.int v2]) Γ hI (S_X3_weightOf l X σ 8 sh_8 v2 r_6 hr_6) mf_X3_weightOf (recv_X3 sh_8 Γ hI) gw_24 rfl rfl ⟨Nat.le_of_ble_eq_true rfl, Nat.le_of_ble_eq_true rfl⟩ rfl hl.1 rfl (Nat.le_of_ble_eq_true rfl) dX0_begin_18 ⟨Nat.zero_le _, Nat.zero_le _⟩) (fun H locs hI => ?_)
      clear hr_6
      refine lv_i2l (v := (r_6.toInt64)) Γ.1.1 Γ.1.2.1 dX0_begin_21 rfl ?_
      obtain ⟨hb_8, h⟩ := bnd_some h
      refine g_last Γ hI sh_58 hb_8 dX0_begin_22 (fun H locs hI => ?_)
      obtain ⟨σ_9, e_m_9, h⟩ := nm_some h
      rw [← e_m_9] at hI; clear e_m_9
      obtain ⟨v2_10, e_v2_10, h⟩ := nm_some h
      refine lv_iinc (v := v2_10) (lv' := [(2, .int v2_10), (0, .ref (X.2.1 + 57)), (1, .ref (X.2.1 + 8))]) Γ.1.1 Γ.1.2.1 dX0_begin_23 hl (k := 2) rfl (by rw [e_v2_10]; rfl) (by decide) rfl (fun ls hl => ?_)
      clear e_v2_10
      refine lv_goto (tgt := 2) Γ.1.1 Γ.1.2.1 dX0_begin_26 (by decide) ?_
      exact ih σ_9 v2_10 _ _ _ hI (lv_sub hl [1, 2, 0] rfl) h
set_option maxRecDepth 20000 in
set_option maxHeartbeats 4000000 in
theorem S_X0_begin (l : Launch) (X : GX) (σ : GM) (σr : GM) (h : f_X0_begin σ = some σr) : gMet l yX0_begin cX0_begin 3 none ({ frames := 1, cells := 0, slots := 0, locals := 21 } : Room) X σ [.ref (X.2.1 + 57), .ref (X.2.1 + 8)] (gQv X σr) := by
  unfold f_X0_begin at h
  refine gMet_of (lv := [(0, .ref (X.2.1 + 57)), (1, .ref (X.2.1 + 8))]) (by decide) rfl (Nat.le_of_ble_eq_true rfl) rfl (fun p e s m below meth c H ls Γ hI hl => ?_)
  refine lv_iconst (v := (0 : Int32)) Γ.1.1 Γ.1.2.1 dX0_begin_0 (by decide) ?_
  refine lv_istore_n (lv' := [(2, .int (0 : Int32)), (0, .ref (X.2.1 + 57)), (1, .ref (X.2.1 + 8))]) Γ.1.1 Γ.1.2.1 dX0_begin_1 rfl hl (by decide) rfl (fun ls hl => ?_)
  exact s_X0_begin_L2 σr Γ _ σ (0 : Int32) _ _ _ hI (lv_sub hl [1, 2, 0] rfl) h
set_option maxRecDepth 20000 in
set_option maxHeartbeats 4000000 in
theorem s_X0_strip_L70 {p : Program} {l : Launch} {e : Env} {s : State} {m : MethodId} {args : Array Value} {below : List Frame} {meth : Method} {c : Code} {X : GX} (σr : GM) (Γ : gC X p m meth c cX0_strip 5 s args RX0 none) (k2 : GM → Int32 → Option GM) (hk2 : ∀ (σ : GM) (v2 : Int32) (H : Heap) (locs : List Loc) (ls : Array Slot), gI X σ s H locs → lv_has ls 5 [(0, .ref (X.2.1 + 57)), (1, .ref (X.2.1 + 8)), (2, .int v2)] → k2 σ v2 = some σr → W p l e ({ frames := 2, cells := 0, slots := 0, locals := 47 } : Room) s m args below meth c H locs 0 0 (MQ below (gQv X σr) args s 0 0 (gA X)) (F0 m 2 ls [])) :
    ∀ (σ : GM) (v2 : Int32) (v3 : Int32) (H : Heap) (locs : List Loc) (ls : Array Slot), gI X σ s H locs → lv_has ls 5 [(0, .ref (X.2.1 + 57)), (1, .ref (X.2.1 + 8)), (2, .int v2), (3, .int v3)] → f_X0_strip_L70 k2 σ v2 v3 = some σr →
    W p l e ({ frames := 2, cells := 0, slots := 0, locals := 47 } : Room) s m args below meth c H locs 0 0 (MQ below (gQv X σr) args s 0 0 (gA X)) (F0 m 70 ls []) := by
  intro σ v2 v3 H locs ls hI hl h
  unfold f_X0_strip_L70 at h
  refine lv_aload_n Γ.1.1 Γ.1.2.1 dX0_strip_70 rfl (lv_at hl 0 rfl) ?_
  refine get_X0_left Γ hI gw_20 dX0_strip_71 ?_
  refine lv_iload_n Γ.1.1 Γ.1.2.1 dX0_strip_74 rfl (lv_at hl 3 rfl) ?_
  refine lv_icmp_ne (tgt := 79) Γ.1.1 Γ.1.2.1 dX0_strip_75 (by decide) (fun c_4 => ?_) (fun c_4 => ?_)
  · replace h := ite_neg c_4 h; clear c_4
    obtain ⟨v2_5, e_v2_5, h⟩ := nm_some h
    refine lv_iinc (v := v2_5) (lv' := [(2, .int v2_5), (0, .ref (X.2.1 + 57)), (1, .ref (X.2.1 + 8)), (3, .int v3)]) Γ.1.1 Γ.1.2.1 dX0_strip_79 hl (k := 2) rfl (by rw [e_v2_5]; rfl) (by decide) rfl (fun ls hl => ?_)
    clear e_v2_5
    refine lv_goto (tgt := 2) Γ.1.1 Γ.1.2.1 dX0_strip_82 (by decide) ?_
    exact hk2 σ v2_5 _ _ _ hI (lv_sub hl [1, 2, 0] rfl) h
  · replace h := ite_pos c_4 h; clear c_4
    exact g_vret Γ hI dX0_strip_78 (Option.some.inj h)
set_option maxRecDepth 20000 in
set_option maxHeartbeats 4000000 in
theorem s_X0_strip_L16 {p : Program} {l : Launch} {e : Env} {s : State} {m : MethodId} {args : Array Value} {below : List Frame} {meth : Method} {c : Code} {X : GX} (σr : GM) (Γ : gC X p m meth c cX0_strip 5 s args RX0 none) (v2 : Int32) (v3 : Int32) (k2 : GM → Int32 → Option GM) (hk2 : ∀ (σ : GM) (v2 : Int32) (H : Heap) (locs : List Loc) (ls : Array Slot), gI X σ s H locs → lv_has ls 5 [(0, .ref (X.2.1 + 57)), (1, .ref (X.2.1 + 8)), (2, .int v2)] → k2 σ v2 = some σr → W p l e ({ frames := 2, cells := 0, slots := 0, locals := 47 } : Room) s m args below meth c H locs 0 0 (MQ below (gQv X σr) args s 0 0 (gA X)) (F0 m 2 ls [])) :
    ∀ (k : Nat) (σ : GM) (v4 : Int32) (H : Heap) (locs : List Loc) (ls : Array Slot), gI X σ s H locs → lv_has ls 5 [(0, .ref (X.2.1 + 57)), (1, .ref (X.2.1 + 8)), (2, .int v2), (3, .int v3), (4, .int v4)] → f_X0_strip_L16 k2 v2 v3 k σ v4 = some σr →
    W p l e ({ frames := 2, cells := 0, slots := 0, locals := 47 } : Room) s m args below meth c H locs 0 0 (MQ below (gQv X σr) args s 0 0 (gA X)) (F0 m 16 ls []) := by
  intro k
  induction k with
  | zero =>
    intro σ v4 H locs ls hI hl h
    exact absurd h (by simp [f_X0_strip_L16])
  | succ k ih =>
    intro σ v4 H locs ls hI hl h
    unfold f_X0_strip_L16 at h
    refine lv_iload Γ.1.1 Γ.1.2.1 dX0_strip_16 (lv_at hl 4 rfl) ?_
    refine lv_bipush (v := (12 : Int32)) Γ.1.1 Γ.1.2.1 dX0_strip_18 (by decide) ?_
    refine lv_icmp_ge (tgt := 70) Γ.1.1 Γ.1.2.1 dX0_strip_20 (by decide) (fun c_3 => ?_) (fun c_3 => ?_)
    · replace h := ite_pos c_3 h; clear c_3
      exact s_X0_strip_L70 σr Γ _ hk2 σ v2 v3 _ _ _ hI (lv_sub hl [0, 1, 2, 3] rfl) h
    · replace h := ite_neg c_3 h; clear c_3
      refine lv_aload_n Γ.1.1 Γ.1.2.1 dX0_strip_23 rfl (lv_at hl 0 rfl) ?_
      refine get_X0_left Γ hI gw_20 dX0_strip_24 ?_
      refine lv_iload Γ.1.1 Γ.1.2.1 dX0_strip_27 (lv_at hl 4 rfl) ?_
      obtain ⟨r_6, hr_6, h⟩ := ob_some h
      refine g_ci Γ hI (g_runS (As := [.int (σ.1 57 3), .int v4]) Γ hI (S_X3_holds l X σ (σ.1 57 3) v4 r_6 hr_6) mf_X3_holds gw_25 rfl rfl ⟨Nat.le_of_ble_eq_true rfl, Nat.le_of_ble_eq_true rfl⟩ rfl hl.1 rfl (Nat.le_of_ble_eq_true rfl) dX0_strip_29 ⟨Nat.zero_le _, Nat.zero_le _⟩) (fun H locs hI => ?_)
      clear hr_6
      refine lv_if_eq (tgt := 64) Γ.1.1 Γ.1.2.1 dX0_strip_32 (by decide) (fun c_8 => ?_) (fun c_8 => ?_)
      · replace h := ite_pos c_8 h; clear c_8
        obtain ⟨v4_9, e_v4_9, h⟩ := nm_some h
        refine lv_iinc (v := v4_9) (lv' := [(4, .int v4_9), (0, .ref (X.2.1 + 57)), (1, .ref (X.2.1 + 8)), (2, .int v2), (3, .int v3)]) Γ.1.1 Γ.1.2.1 dX0_strip_64 hl (k := 4) rfl (by rw [e_v4_9]; rfl) (by decide) rfl (fun ls hl => ?_)
        clear e_v4_9
        refine lv_goto (tgt := 16) Γ.1.1 Γ.1.2.1 dX0_strip_67 (by decide) ?_
        exact ih σ v4_9 _ _ _ hI (lv_sub hl [1, 2, 3, 4, 0] rfl) h
      · replace h := ite_neg c_8 h; clear c_8
        refine lv_aload_n Γ.1.1 Γ.1.2.1 dX0_strip_35 rfl (lv_at hl 1 rfl) ?_
        refine lv_iload Γ.1.1 Γ.1.2.1 dX0_strip_36 (lv_at hl 4 rfl) ?_
        refine lv_aload_n Γ.1.1 Γ.1.2.1 dX0_strip_38 rfl (lv_at hl 0 rfl) ?_
        refine get_X0_left Γ hI gw_20 dX0_strip_39 ?_
        obtain ⟨r_10, hr_10, h⟩ := ob_some h
        refine g_ci Γ hI (g_runV (As := [.int v4, .int (σ.1 57 3)]) Γ hI (S_X3_endsIn l X σ 8 sh_8 v4 (σ.1 57 3) r_10 hr_10) mf_X3_endsIn (recv_X3 sh_8 Γ hI) gw_26 rfl rfl ⟨Nat.le_of_ble_eq_true rfl, Nat.le_of_ble_eq_true rfl⟩ rfl hl.1 rfl (Nat.le_of_ble_eq_true rfl) dX0_strip_42 ⟨Nat.zero_le _, Nat.zero_le _⟩) (fun H locs hI => ?_)
        clear hr_10
        refine lv_iconst (v := (1 : Int32)) Γ.1.1 Γ.1.2.1 dX0_strip_45 (by decide) ?_
        refine lv_icmp_gt (tgt := 64) Γ.1.1 Γ.1.2.1 dX0_strip_46 (by decide) (fun c_12 => ?_) (fun c_12 => ?_)
        · replace h := ite_pos c_12 h; clear c_12
          obtain ⟨v4_13, e_v4_13, h⟩ := nm_some h
          refine lv_iinc (v := v4_13) (lv' := [(4, .int v4_13), (0, .ref (X.2.1 + 57)), (1, .ref (X.2.1 + 8)), (2, .int v2), (3, .int v3)]) Γ.1.1 Γ.1.2.1 dX0_strip_64 hl (k := 4) rfl (by rw [e_v4_13]; rfl) (by decide) rfl (fun ls hl => ?_)
          clear e_v4_13
          refine lv_goto (tgt := 16) Γ.1.1 Γ.1.2.1 dX0_strip_67 (by decide) ?_
          exact ih σ v4_13 _ _ _ hI (lv_sub hl [1, 2, 3, 4, 0] rfl) h
        · replace h := ite_neg c_12 h; clear c_12
          refine lv_aload_n Γ.1.1 Γ.1.2.1 dX0_strip_49 rfl (lv_at hl 0 rfl) ?_
          refine lv_dup Γ.1.1 Γ.1.2.1 dX0_strip_50 rfl ?_
          refine get_X0_left Γ hI gw_20 dX0_strip_51 ?_
          refine lv_iconst (v := (1 : Int32)) Γ.1.1 Γ.1.2.1 dX0_strip_54 (by decide) ?_
          refine lv_iload Γ.1.1 Γ.1.2.1 dX0_strip_55 (lv_at hl 4 rfl) ?_
          refine lv_ishl Γ.1.1 Γ.1.2.1 dX0_strip_57 ?_
          refine lv_iconst (v := (-1 : Int32)) Γ.1.1 Γ.1.2.1 dX0_strip_58 (by decide) ?_
          refine lv_ixor Γ.1.1 Γ.1.2.1 dX0_strip_59 ?_
          refine lv_iand Γ.1.1 Γ.1.2.1 dX0_strip_60 ?_
          refine put_X0_left Γ hI gw_20 dX0_strip_61 (fun H locs hI => ?_)
          obtain ⟨σ_14, e_m_14, h⟩ := nm_some h
          rw [← e_m_14] at hI; clear e_m_14
          obtain ⟨v4_15, e_v4_15, h⟩ := nm_some h
          refine lv_iinc (v := v4_15) (lv' := [(4, .int v4_15), (0, .ref (X.2.1 + 57)), (1, .ref (X.2.1 + 8)), (2, .int v2), (3, .int v3)]) Γ.1.1 Γ.1.2.1 dX0_strip_64 hl (k := 4) rfl (by rw [e_v4_15]; rfl) (by decide) rfl (fun ls hl => ?_)
          clear e_v4_15
          refine lv_goto (tgt := 16) Γ.1.1 Γ.1.2.1 dX0_strip_67 (by decide) ?_
          exact ih σ_14 v4_15 _ _ _ hI (lv_sub hl [1, 2, 3, 4, 0] rfl) h
set_option maxRecDepth 20000 in
set_option maxHeartbeats 4000000 in
theorem s_X0_strip_L2 {p : Program} {l : Launch} {e : Env} {s : State} {m : MethodId} {args : Array Value} {below : List Frame} {meth : Method} {c : Code} {X : GX} (σr : GM) (Γ : gC X p m meth c cX0_strip 5 s args RX0 none) :
    ∀ (k : Nat) (σ : GM) (v2 : Int32) (H : Heap) (locs : List Loc) (ls : Array Slot), gI X σ s H locs → lv_has ls 5 [(0, .ref (X.2.1 + 57)), (1, .ref (X.2.1 + 8)), (2, .int v2)] → f_X0_strip_L2 k σ v2 = some σr →
    W p l e ({ frames := 2, cells := 0, slots := 0, locals := 47 } : Room) s m args below meth c H locs 0 0 (MQ below (gQv X σr) args s 0 0 (gA X)) (F0 m 2 ls []) := by
  intro k
  induction k with
  | zero =>
    intro σ v2 H locs ls hI hl h
    exact absurd h (by simp [f_X0_strip_L2])
  | succ k ih =>
    intro σ v2 H locs ls hI hl h
    unfold f_X0_strip_L2 at h
    refine lv_iload_n Γ.1.1 Γ.1.2.1 dX0_strip_2 rfl (lv_at hl 2 rfl) ?_
    refine lv_bipush (v := (12 : Int32)) Γ.1.1 Γ.1.2.1 dX0_strip_3 (by decide) ?_
    refine lv_icmp_ge (tgt := 85) Γ.1.1 Γ.1.2.1 dX0_strip_5 (by decide) (fun c_1 => ?_) (fun c_1 => ?_)
    · replace h := ite_pos c_1 h; clear c_1
      exact g_vret Γ hI dX0_strip_85 (Option.some.inj h)
    · replace h := ite_neg c_1 h; clear c_1
      refine lv_aload_n Γ.1.1 Γ.1.2.1 dX0_strip_8 rfl (lv_at hl 0 rfl) ?_
      refine get_X0_left Γ hI gw_20 dX0_strip_9 ?_
      refine lv_topi (fun v3_2 e_v3_2 => ?_)
      replace h := nm_at e_v3_2 h; clear e_v3_2
      refine lv_istore_n (lv' := [(3, .int v3_2), (0, .ref (X.2.1 + 57)), (1, .ref (X.2.1 + 8)), (2, .int v2)]) Γ.1.1 Γ.1.2.1 dX0_strip_12 rfl hl (by decide) rfl (fun ls hl => ?_)
      refine lv_iconst (v := (0 : Int32)) Γ.1.1 Γ.1.2.1 dX0_strip_13 (by decide) ?_
      refine lv_istore (lv' := [(4, .int (0 : Int32)), (3, .int v3_2), (0, .ref (X.2.1 + 57)), (1, .ref (X.2.1 + 8)), (2, .int v2)]) Γ.1.1 Γ.1.2.1 dX0_strip_14 hl (by decide) rfl (fun ls hl => ?_)
      exact s_X0_strip_L16 σr Γ v2 v3_2 _ ih _ σ (0 : Int32) _ _ _ hI (lv_sub hl [2, 3, 4, 1, 0] rfl) h
set_option maxRecDepth 20000 in
set_option maxHeartbeats 4000000 in
theorem S_X0_strip (l : Launch) (X : GX) (σ : GM) (σr : GM) (h : f_X0_strip σ = some σr) : gMet l yX0_strip cX0_strip 5 none ({ frames := 2, cells := 0, slots := 0, locals := 47 } : Room) X σ [.ref (X.2.1 + 57), .ref (X.2.1 + 8)] (gQv X σr) := by
  unfold f_X0_strip at h
  refine gMet_of (lv := [(0, .ref (X.2.1 + 57)), (1, .ref (X.2.1 + 8))]) (by decide) rfl (Nat.le_of_ble_eq_true rfl) rfl (fun p e s m below meth c H ls Γ hI hl => ?_)
  refine lv_iconst (v := (0 : Int32)) Γ.1.1 Γ.1.2.1 dX0_strip_0 (by decide) ?_
  refine lv_istore_n (lv' := [(2, .int (0 : Int32)), (0, .ref (X.2.1 + 57)), (1, .ref (X.2.1 + 8))]) Γ.1.1 Γ.1.2.1 dX0_strip_1 rfl hl (by decide) rfl (fun ls hl => ?_)
  exact s_X0_strip_L2 σr Γ _ σ (0 : Int32) _ _ _ hI (lv_sub hl [1, 2, 0] rfl) h
set_option maxRecDepth 20000 in
set_option maxHeartbeats 4000000 in
theorem S_X8_ringAt (l : Launch) (X : GX) (σ : GM) (v1 : Int32) (x : Int32) (h : f_X8_ringAt σ v1 = some x) : gMet l yX8_ringAt cX8_ringAt 2 (some .int) ({ frames := 0, cells := 0, slots := 0, locals := 0 } : Room) X σ [.ref (X.2.1 + 49), .int v1] (gQi X σ x) := by
  unfold f_X8_ringAt at h
  refine gMet_of (lv := [(0, .ref (X.2.1 + 49)), (1, .int v1)]) (by decide) rfl (Nat.le_of_ble_eq_true rfl) rfl (fun p e s m below meth c H ls Γ hI hl => ?_)
  refine lv_iload_n Γ.1.1 Γ.1.2.1 dX8_ringAt_0 rfl (lv_at hl 1 rfl) ?_
  refine lv_if_lt (tgt := 30) Γ.1.1 Γ.1.2.1 dX8_ringAt_1 (by decide) (fun c_1 => ?_) (fun c_1 => ?_)
  · replace h := ite_pos c_1 h; clear c_1
    refine lv_iconst (v := (0 : Int32)) Γ.1.1 Γ.1.2.1 dX8_ringAt_30 (by decide) ?_
    exact g_iret Γ hI dX8_ringAt_31 rfl (Option.some.inj h)
  · replace h := ite_neg c_1 h; clear c_1
    refine lv_iload_n Γ.1.1 Γ.1.2.1 dX8_ringAt_4 rfl (lv_at hl 1 rfl) ?_
    refine lv_aload_n Γ.1.1 Γ.1.2.1 dX8_ringAt_5 rfl (lv_at hl 0 rfl) ?_
    refine get_X8_ringSets Γ hI gw_27 dX8_ringAt_6 ?_
    refine g_alen Γ hI sh_53 (by decide) (v := (924 : Int32)) (by decide) dX8_ringAt_9 ?_
    refine lv_icmp_ge (tgt := 30) Γ.1.1 Γ.1.2.1 dX8_ringAt_10 (by decide) (fun c_2 => ?_) (fun c_2 => ?_)
    · replace h := ite_pos c_2 h; clear c_2
      refine lv_iconst (v := (0 : Int32)) Γ.1.1 Γ.1.2.1 dX8_ringAt_30 (by decide) ?_
      exact g_iret Γ hI dX8_ringAt_31 rfl (Option.some.inj h)
    · replace h := ite_neg c_2 h; clear c_2
      refine lv_iload_n Γ.1.1 Γ.1.2.1 dX8_ringAt_13 rfl (lv_at hl 1 rfl) ?_
      refine lv_aload_n Γ.1.1 Γ.1.2.1 dX8_ringAt_14 rfl (lv_at hl 0 rfl) ?_
      refine get_X8_many Γ hI gw_28 dX8_ringAt_15 ?_
      refine lv_icmp_ge (tgt := 30) Γ.1.1 Γ.1.2.1 dX8_ringAt_18 (by decide) (fun c_3 => ?_) (fun c_3 => ?_)
      · replace h := ite_pos c_3 h; clear c_3
        refine lv_iconst (v := (0 : Int32)) Γ.1.1 Γ.1.2.1 dX8_ringAt_30 (by decide) ?_
        exact g_iret Γ hI dX8_ringAt_31 rfl (Option.some.inj h)
      · replace h := ite_neg c_3 h; clear c_3
        refine lv_aload_n Γ.1.1 Γ.1.2.1 dX8_ringAt_21 rfl (lv_at hl 0 rfl) ?_
        refine get_X8_ringSets Γ hI gw_27 dX8_ringAt_22 ?_
        refine lv_iload_n Γ.1.1 Γ.1.2.1 dX8_ringAt_25 rfl (lv_at hl 1 rfl) ?_
        obtain ⟨hb_4, h⟩ := bnd_some h
        refine g_iald Γ hI sh_53 hb_4 dX8_ringAt_26 ?_
        refine lv_goto (tgt := 31) Γ.1.1 Γ.1.2.1 dX8_ringAt_27 (by decide) ?_
        exact g_iret Γ hI dX8_ringAt_31 rfl (Option.some.inj h)
set_option maxRecDepth 20000 in
set_option maxHeartbeats 4000000 in
theorem s_X0_leastOpenRing_L102 {p : Program} {l : Launch} {e : Env} {s : State} {m : MethodId} {args : Array Value} {below : List Frame} {meth : Method} {c : Code} {X : GX} (σ : GM) (x : Int32) (Γ : gC X p m meth c cX0_leastOpenRing 8 s args RX0 (some .int)) (v3 : Int32) (k57 : Int32 → Int32 → Option Int32) (hk57 : ∀ (v4 : Int32) (v5 : Int32) (H : Heap) (locs : List Loc) (ls : Array Slot), gI X σ s H locs → lv_has ls 8 [(0, .ref (X.2.1 + 57)), (2, .ref (X.2.1 + 49)), (3, .int v3), (4, .int v4), (5, .int v5)] → k57 v4 v5 = some x → W p l e ({ frames := 2, cells := 0, slots := 0, locals := 47 } : Room) s m args below meth c H locs 0 0 (MQ below (gQi X σ x) args s 0 0 (gA X)) (F0 m 57 ls [])) :
    ∀ (v4 : Int32) (v5 : Int32) (v6 : Int32) (s0 : Int32) (H : Heap) (locs : List Loc) (ls : Array Slot), gI X σ s H locs → lv_has ls 8 [(0, .ref (X.2.1 + 57)), (2, .ref (X.2.1 + 49)), (3, .int v3), (4, .int v4), (5, .int v5), (6, .int v6)] → f_X0_leastOpenRing_L102 σ k57 v3 v4 v5 v6 s0 = some x →
    W p l e ({ frames := 2, cells := 0, slots := 0, locals := 47 } : Room) s m args below meth c H locs 0 0 (MQ below (gQi X σ x) args s 0 0 (gA X)) (F0 m 102 ls [.int s0]) := by
  intro v4 v5 v6 s0 H locs ls hI hl h
  unfold f_X0_leastOpenRing_L102 at h
  refine lv_istore (lv' := [(7, .int s0), (0, .ref (X.2.1 + 57)), (2, .ref (X.2.1 + 49)), (3, .int v3), (4, .int v4), (5, .int v5), (6, .int v6)]) Γ.1.1 Γ.1.2.1 dX0_leastOpenRing_102 hl (by decide) rfl (fun ls hl => ?_)
  refine lv_iload Γ.1.1 Γ.1.2.1 dX0_leastOpenRing_104 (lv_at hl 0 rfl) ?_
  refine lv_if_eq (tgt := 125) Γ.1.1 Γ.1.2.1 dX0_leastOpenRing_106 (by decide) (fun c_6 => ?_) (fun c_6 => ?_)
  · replace h := ite_pos c_6 h; clear c_6
    obtain ⟨v5_7, e_v5_7, h⟩ := nm_some h
    refine lv_iinc (v := v5_7) (lv' := [(5, .int v5_7), (7, .int s0), (0, .ref (X.2.1 + 57)), (2, .ref (X.2.1 + 49)), (3, .int v3), (4, .int v4), (6, .int v6)]) Γ.1.1 Γ.1.2.1 dX0_leastOpenRing_125 hl (k := 5) rfl (by rw [e_v5_7]; rfl) (by decide) rfl (fun ls hl => ?_)
    clear e_v5_7
    refine lv_goto (tgt := 57) Γ.1.1 Γ.1.2.1 dX0_leastOpenRing_128 (by decide) ?_
    exact hk57 v4 v5_7 _ _ _ hI (lv_sub hl [2, 3, 4, 5, 0] rfl) h
  · replace h := ite_neg c_6 h; clear c_6
    refine lv_iload Γ.1.1 Γ.1.2.1 dX0_leastOpenRing_109 (lv_at hl 4 rfl) ?_
    refine lv_if_eq (tgt := 121) Γ.1.1 Γ.1.2.1 dX0_leastOpenRing_111 (by decide) (fun c_8 => ?_) (fun c_8 => ?_)
    · replace h := ite_pos c_8 h; clear c_8
      refine lv_iload Γ.1.1 Γ.1.2.1 dX0_leastOpenRing_121 (lv_at hl 6 rfl) ?_
      refine lv_istore (lv' := [(4, .int v6), (7, .int s0), (0, .ref (X.2.1 + 57)), (2, .ref (X.2.1 + 49)), (3, .int v3), (5, .int v5), (6, .int v6)]) Γ.1.1 Γ.1.2.1 dX0_leastOpenRing_123 hl (by decide) rfl (fun ls hl => ?_)
      obtain ⟨v5_9, e_v5_9, h⟩ := nm_some h
      refine lv_iinc (v := v5_9) (lv' := [(5, .int v5_9), (4, .int v6), (7, .int s0), (0, .ref (X.2.1 + 57)), (2, .ref (X.2.1 + 49)), (3, .int v3), (6, .int v6)]) Γ.1.1 Γ.1.2.1 dX0_leastOpenRing_125 hl (k := 5) rfl (by rw [e_v5_9]; rfl) (by decide) rfl (fun ls hl => ?_)
      clear e_v5_9
      refine lv_goto (tgt := 57) Γ.1.1 Γ.1.2.1 dX0_leastOpenRing_128 (by decide) ?_
      exact hk57 v6 v5_9 _ _ _ hI (lv_sub hl [3, 4, 5, 1, 0] rfl) h
    · replace h := ite_neg c_8 h; clear c_8
      refine lv_iload Γ.1.1 Γ.1.2.1 dX0_leastOpenRing_114 (lv_at hl 6 rfl) ?_
      refine lv_iload Γ.1.1 Γ.1.2.1 dX0_leastOpenRing_116 (lv_at hl 4 rfl) ?_
      refine lv_icmp_ge (tgt := 125) Γ.1.1 Γ.1.2.1 dX0_leastOpenRing_118 (by decide) (fun c_10 => ?_) (fun c_10 => ?_)
      · replace h := ite_pos c_10 h; clear c_10
        obtain ⟨v5_11, e_v5_11, h⟩ := nm_some h
        refine lv_iinc (v := v5_11) (lv' := [(5, .int v5_11), (7, .int s0), (0, .ref (X.2.1 + 57)), (2, .ref (X.2.1 + 49)), (3, .int v3), (4, .int v4), (6, .int v6)]) Γ.1.1 Γ.1.2.1 dX0_leastOpenRing_125 hl (k := 5) rfl (by rw [e_v5_11]; rfl) (by decide) rfl (fun ls hl => ?_)
        clear e_v5_11
        refine lv_goto (tgt := 57) Γ.1.1 Γ.1.2.1 dX0_leastOpenRing_128 (by decide) ?_
        exact hk57 v4 v5_11 _ _ _ hI (lv_sub hl [2, 3, 4, 5, 0] rfl) h
      · replace h := ite_neg c_10 h; clear c_10
        refine lv_iload Γ.1.1 Γ.1.2.1 dX0_leastOpenRing_121 (lv_at hl 6 rfl) ?_
        refine lv_istore (lv' := [(4, .int v6), (7, .int s0), (0, .ref (X.2.1 + 57)), (2, .ref (X.2.1 + 49)), (3, .int v3), (5, .int v5), (6, .int v6)]) Γ.1.1 Γ.1.2.1 dX0_leastOpenRing_123 hl (by decide) rfl (fun ls hl => ?_)
        obtain ⟨v5_12, e_v5_12, h⟩ := nm_some h
        refine lv_iinc (v := v5_12) (lv' := [(5, .int v5_12), (4, .int v6), (7, .int s0), (0, .ref (X.2.1 + 57)), (2, .ref (X.2.1 + 49)), (3, .int v3), (6, .int v6)]) Γ.1.1 Γ.1.2.1 dX0_leastOpenRing_125 hl (k := 5) rfl (by rw [e_v5_12]; rfl) (by decide) rfl (fun ls hl => ?_)
        clear e_v5_12
        refine lv_goto (tgt := 57) Γ.1.1 Γ.1.2.1 dX0_leastOpenRing_128 (by decide) ?_
        exact hk57 v6 v5_12 _ _ _ hI (lv_sub hl [3, 4, 5, 1, 0] rfl) h
set_option maxRecDepth 20000 in
set_option maxHeartbeats 4000000 in
theorem s_X0_leastOpenRing_L101 {p : Program} {l : Launch} {e : Env} {s : State} {m : MethodId} {args : Array Value} {below : List Frame} {meth : Method} {c : Code} {X : GX} (σ : GM) (x : Int32) (Γ : gC X p m meth c cX0_leastOpenRing 8 s args RX0 (some .int)) (v3 : Int32) (k57 : Int32 → Int32 → Option Int32) (hk57 : ∀ (v4 : Int32) (v5 : Int32) (H : Heap) (locs : List Loc) (ls : Array Slot), gI X σ s H locs → lv_has ls 8 [(0, .ref (X.2.1 + 57)), (2, .ref (X.2.1 + 49)), (3, .int v3), (4, .int v4), (5, .int v5)] → k57 v4 v5 = some x → W p l e ({ frames := 2, cells := 0, slots := 0, locals := 47 } : Room) s m args below meth c H locs 0 0 (MQ below (gQi X σ x) args s 0 0 (gA X)) (F0 m 57 ls [])) :
    ∀ (v4 : Int32) (v5 : Int32) (v6 : Int32) (H : Heap) (locs : List Loc) (ls : Array Slot), gI X σ s H locs → lv_has ls 8 [(0, .ref (X.2.1 + 57)), (2, .ref (X.2.1 + 49)), (3, .int v3), (4, .int v4), (5, .int v5), (6, .int v6)] → f_X0_leastOpenRing_L101 σ k57 v3 v4 v5 v6 = some x →
    W p l e ({ frames := 2, cells := 0, slots := 0, locals := 47 } : Room) s m args below meth c H locs 0 0 (MQ below (gQi X σ x) args s 0 0 (gA X)) (F0 m 101 ls []) := by
  intro v4 v5 v6 H locs ls hI hl h
  unfold f_X0_leastOpenRing_L101 at h
  refine lv_iconst (v := (0 : Int32)) Γ.1.1 Γ.1.2.1 dX0_leastOpenRing_101 (by decide) ?_
  exact s_X0_leastOpenRing_L102 σ x Γ v3 _ hk57 v4 v5 v6 (0 : Int32) _ _ _ hI hl h
set_option maxRecDepth 20000 in
set_option maxHeartbeats 4000000 in
theorem s_X0_leastOpenRing_L57 {p : Program} {l : Launch} {e : Env} {s : State} {m : MethodId} {args : Array Value} {below : List Frame} {meth : Method} {c : Code} {X : GX} (σ : GM) (x : Int32) (Γ : gC X p m meth c cX0_leastOpenRing 8 s args RX0 (some .int)) (v3 : Int32) :
    ∀ (k : Nat) (v4 : Int32) (v5 : Int32) (H : Heap) (locs : List Loc) (ls : Array Slot), gI X σ s H locs → lv_has ls 8 [(0, .ref (X.2.1 + 57)), (2, .ref (X.2.1 + 49)), (3, .int v3), (4, .int v4), (5, .int v5)] → f_X0_leastOpenRing_L57 σ v3 k v4 v5 = some x →
    W p l e ({ frames := 2, cells := 0, slots := 0, locals := 47 } : Room) s m args below meth c H locs 0 0 (MQ below (gQi X σ x) args s 0 0 (gA X)) (F0 m 57 ls []) := by
  intro k
  induction k with
  | zero =>
    intro v4 v5 H locs ls hI hl h
    exact absurd h (by simp [f_X0_leastOpenRing_L57])
  | succ k ih =>
    intro v4 v5 H locs ls hI hl h
    unfold f_X0_leastOpenRing_L57 at h
    refine lv_iload Γ.1.1 Γ.1.2.1 dX0_leastOpenRing_57 (lv_at hl 4 rfl) ?_
    refine lv_aload_n Γ.1.1 Γ.1.2.1 dX0_leastOpenRing_59 rfl (lv_at hl 1 rfl) ?_
    refine get_X8_many Γ hI gw_29 dX0_leastOpenRing_60 ?_
    refine lv_icmp_ge (tgt := 131) Γ.1.1 Γ.1.2.1 dX0_leastOpenRing_63 (by decide) (fun c_2 => ?_) (fun c_2 => ?_)
    · replace h := ite_pos c_2 h; clear c_2
      refine lv_iload Γ.1.1 Γ.1.2.1 dX0_leastOpenRing_131 (lv_at hl 3 rfl) ?_
      exact g_iret Γ hI dX0_leastOpenRing_133 rfl (Option.some.inj h)
    · replace h := ite_neg c_2 h; clear c_2
      refine lv_aload_n Γ.1.1 Γ.1.2.1 dX0_leastOpenRing_66 rfl (lv_at hl 1 rfl) ?_
      refine lv_iload Γ.1.1 Γ.1.2.1 dX0_leastOpenRing_67 (lv_at hl 4 rfl) ?_
      obtain ⟨r_3, hr_3, h⟩ := ob_some h
      refine g_ci Γ hI (g_runV (As := [.int v5]) Γ hI (S_X8_ringAt l X σ v5 r_3 hr_3) mf_X8_ringAt (recv_X8 Γ hI) gw_30 rfl rfl ⟨Nat.le_of_ble_eq_true rfl, Nat.le_of_ble_eq_true rfl⟩ rfl hl.1 rfl (Nat.le_of_ble_eq_true rfl) dX0_leastOpenRing_69 ⟨Nat.zero_le _, Nat.zero_le _⟩) (fun H locs hI => ?_)
      clear hr_3
      refine lv_istore (lv' := [(6, .int r_3), (0, .ref (X.2.1 + 57)), (2, .ref (X.2.1 + 49)), (3, .int v3), (4, .int v4), (5, .int v5)]) Γ.1.1 Γ.1.2.1 dX0_leastOpenRing_72 hl (by decide) rfl (fun ls hl => ?_)
      refine lv_iload Γ.1.1 Γ.1.2.1 dX0_leastOpenRing_74 (lv_at hl 0 rfl) ?_
      refine lv_aload_n Γ.1.1 Γ.1.2.1 dX0_leastOpenRing_76 rfl (lv_at hl 1 rfl) ?_
      refine get_X0_left Γ hI gw_20 dX0_leastOpenRing_77 ?_
      refine lv_iconst (v := (-1 : Int32)) Γ.1.1 Γ.1.2.1 dX0_leastOpenRing_80 (by decide) ?_
      refine lv_ixor Γ.1.1 Γ.1.2.1 dX0_leastOpenRing_81 ?_
      refine lv_iand Γ.1.1 Γ.1.2.1 dX0_leastOpenRing_82 ?_
      refine lv_if_ne (tgt := 101) Γ.1.1 Γ.1.2.1 dX0_leastOpenRing_83 (by decide) (fun c_5 => ?_) (fun c_5 => ?_)
      · replace h := ite_neg c_5 h; clear c_5
        exact s_X0_leastOpenRing_L101 σ x Γ v3 _ ih v4 v5 r_3 _ _ _ hI (lv_sub hl [1, 2, 3, 4, 5, 0] rfl) h
      · replace h := ite_pos c_5 h; clear c_5
        refine lv_iload Γ.1.1 Γ.1.2.1 dX0_leastOpenRing_86 (lv_at hl 0 rfl) ?_
        refine lv_iload_n Γ.1.1 Γ.1.2.1 dX0_leastOpenRing_88 rfl (lv_at hl 3 rfl) ?_
        refine lv_iand Γ.1.1 Γ.1.2.1 dX0_leastOpenRing_89 ?_
        obtain ⟨r_13, hr_13, h⟩ := ob_some h
        refine g_ci Γ hI (g_runS (As := [.int (r_3 &&& v3)]) Γ hI (S_J6_bitCount_0f7a4 l X σ (r_3 &&& v3) r_13 hr_13) mf_J6_bitCount_0f7a4 gw_31 rfl rfl ⟨Nat.le_of_ble_eq_true rfl, Nat.le_of_ble_eq_true rfl⟩ rfl hl.1 rfl (Nat.le_of_ble_eq_true rfl) dX0_leastOpenRing_90 ⟨Nat.zero_le _, Nat.zero_le _⟩) (fun H locs hI => ?_)
        clear hr_13
        refine lv_iconst (v := (1 : Int32)) Γ.1.1 Γ.1.2.1 dX0_leastOpenRing_93 (by decide) ?_
        refine lv_icmp_gt (tgt := 101) Γ.1.1 Γ.1.2.1 dX0_leastOpenRing_94 (by decide) (fun c_15 => ?_) (fun c_15 => ?_)
        · replace h := ite_pos c_15 h; clear c_15
          exact s_X0_leastOpenRing_L101 σ x Γ v3 _ ih v4 v5 r_3 _ _ _ hI (lv_sub hl [1, 2, 3, 4, 5, 0] rfl) h
        · replace h := ite_neg c_15 h; clear c_15
          refine lv_iconst (v := (1 : Int32)) Γ.1.1 Γ.1.2.1 dX0_leastOpenRing_97 (by decide) ?_
          refine lv_goto (tgt := 102) Γ.1.1 Γ.1.2.1 dX0_leastOpenRing_98 (by decide) ?_
          exact s_X0_leastOpenRing_L102 σ x Γ v3 _ ih v4 v5 r_3 (1 : Int32) _ _ _ hI (lv_sub hl [1, 2, 3, 4, 5, 0] rfl) h
set_option maxRecDepth 20000 in
set_option maxHeartbeats 4000000 in
theorem s_X0_leastOpenRing_L51 {p : Program} {l : Launch} {e : Env} {s : State} {m : MethodId} {args : Array Value} {below : List Frame} {meth : Method} {c : Code} {X : GX} (σ : GM) (x : Int32) (Γ : gC X p m meth c cX0_leastOpenRing 8 s args RX0 (some .int)) :
    ∀ (v3 : Int32) (H : Heap) (locs : List Loc) (ls : Array Slot), gI X σ s H locs → lv_has ls 8 [(0, .ref (X.2.1 + 57)), (2, .ref (X.2.1 + 49)), (3, .int v3)] → f_X0_leastOpenRing_L51 σ v3 = some x →
    W p l e ({ frames := 2, cells := 0, slots := 0, locals := 47 } : Room) s m args below meth c H locs 0 0 (MQ below (gQi X σ x) args s 0 0 (gA X)) (F0 m 51 ls []) := by
  intro v3 H locs ls hI hl h
  unfold f_X0_leastOpenRing_L51 at h
  refine lv_iconst (v := (0 : Int32)) Γ.1.1 Γ.1.2.1 dX0_leastOpenRing_51 (by decide) ?_
  refine lv_istore (lv' := [(4, .int (0 : Int32)), (0, .ref (X.2.1 + 57)), (2, .ref (X.2.1 + 49)), (3, .int v3)]) Γ.1.1 Γ.1.2.1 dX0_leastOpenRing_52 hl (by decide) rfl (fun ls hl => ?_)
  refine lv_iconst (v := (0 : Int32)) Γ.1.1 Γ.1.2.1 dX0_leastOpenRing_54 (by decide) ?_
  refine lv_istore (lv' := [(5, .int (0 : Int32)), (4, .int (0 : Int32)), (0, .ref (X.2.1 + 57)), (2, .ref (X.2.1 + 49)), (3, .int v3)]) Γ.1.1 Γ.1.2.1 dX0_leastOpenRing_55 hl (by decide) rfl (fun ls hl => ?_)
  exact s_X0_leastOpenRing_L57 σ x Γ v3 _ (0 : Int32) (0 : Int32) _ _ _ hI (lv_sub hl [2, 3, 4, 1, 0] rfl) h
set_option maxRecDepth 20000 in
set_option maxHeartbeats 4000000 in
theorem s_X0_leastOpenRing_L5 {p : Program} {l : Launch} {e : Env} {s : State} {m : MethodId} {args : Array Value} {below : List Frame} {meth : Method} {c : Code} {X : GX} (σ : GM) (x : Int32) (Γ : gC X p m meth c cX0_leastOpenRing 8 s args RX0 (some .int)) :
    ∀ (k : Nat) (v3 : Int32) (v4 : Int32) (H : Heap) (locs : List Loc) (ls : Array Slot), gI X σ s H locs → lv_has ls 8 [(0, .ref (X.2.1 + 57)), (1, .ref (X.2.1 + 8)), (2, .ref (X.2.1 + 49)), (3, .int v3), (4, .int v4)] → f_X0_leastOpenRing_L5 σ k v3 v4 = some x →
    W p l e ({ frames := 2, cells := 0, slots := 0, locals := 47 } : Room) s m args below meth c H locs 0 0 (MQ below (gQi X σ x) args s 0 0 (gA X)) (F0 m 5 ls []) := by
  intro k
  induction k with
  | zero =>
    intro v3 v4 H locs ls hI hl h
    exact absurd h (by simp [f_X0_leastOpenRing_L5])
  | succ k ih =>
    intro v3 v4 H locs ls hI hl h
    unfold f_X0_leastOpenRing_L5 at h
    refine lv_iload Γ.1.1 Γ.1.2.1 dX0_leastOpenRing_5 (lv_at hl 4 rfl) ?_
    refine lv_bipush (v := (12 : Int32)) Γ.1.1 Γ.1.2.1 dX0_leastOpenRing_7 (by decide) ?_
    refine lv_icmp_ge (tgt := 51) Γ.1.1 Γ.1.2.1 dX0_leastOpenRing_9 (by decide) (fun c_1 => ?_) (fun c_1 => ?_)
    · replace h := ite_pos c_1 h; clear c_1
      exact s_X0_leastOpenRing_L51 σ x Γ v3 _ _ _ hI (lv_sub hl [0, 2, 3] rfl) h
    · replace h := ite_neg c_1 h; clear c_1
      refine lv_aload_n Γ.1.1 Γ.1.2.1 dX0_leastOpenRing_12 rfl (lv_at hl 0 rfl) ?_
      refine get_X0_left Γ hI gw_20 dX0_leastOpenRing_13 ?_
      refine lv_iload Γ.1.1 Γ.1.2.1 dX0_leastOpenRing_16 (lv_at hl 4 rfl) ?_
      obtain ⟨r_16, hr_16, h⟩ := ob_some h
      refine g_ci Γ hI (g_runS (As := [.int (σ.1 57 3), .int v4]) Γ hI (S_X3_holds l X σ (σ.1 57 3) v4 r_16 hr_16) mf_X3_holds gw_25 rfl rfl ⟨Nat.le_of_ble_eq_true rfl, Nat.le_of_ble_eq_true rfl⟩ rfl hl.1 rfl (Nat.le_of_ble_eq_true rfl) dX0_leastOpenRing_18 ⟨Nat.zero_le _, Nat.zero_le _⟩) (fun H locs hI => ?_)
      clear hr_16
      refine lv_if_eq (tgt := 45) Γ.1.1 Γ.1.2.1 dX0_leastOpenRing_21 (by decide) (fun c_18 => ?_) (fun c_18 => ?_)
      · replace h := ite_pos c_18 h; clear c_18
        obtain ⟨v4_19, e_v4_19, h⟩ := nm_some h
        refine lv_iinc (v := v4_19) (lv' := [(4, .int v4_19), (0, .ref (X.2.1 + 57)), (1, .ref (X.2.1 + 8)), (2, .ref (X.2.1 + 49)), (3, .int v3)]) Γ.1.1 Γ.1.2.1 dX0_leastOpenRing_45 hl (k := 4) rfl (by rw [e_v4_19]; rfl) (by decide) rfl (fun ls hl => ?_)
        clear e_v4_19
        refine lv_goto (tgt := 5) Γ.1.1 Γ.1.2.1 dX0_leastOpenRing_48 (by decide) ?_
        exact ih v3 v4_19 _ _ _ hI (lv_sub hl [1, 2, 3, 4, 0] rfl) h
      · replace h := ite_neg c_18 h; clear c_18
        refine lv_aload_n Γ.1.1 Γ.1.2.1 dX0_leastOpenRing_24 rfl (lv_at hl 1 rfl) ?_
        refine lv_iload Γ.1.1 Γ.1.2.1 dX0_leastOpenRing_25 (lv_at hl 4 rfl) ?_
        refine lv_aload_n Γ.1.1 Γ.1.2.1 dX0_leastOpenRing_27 rfl (lv_at hl 0 rfl) ?_
        refine get_X0_left Γ hI gw_20 dX0_leastOpenRing_28 ?_
        obtain ⟨r_20, hr_20, h⟩ := ob_some h
        refine g_ci Γ hI (g_runV (As := [.int v4, .int (σ.1 57 3)]) Γ hI (S_X3_endsIn l X σ 8 sh_8 v4 (σ.1 57 3) r_20 hr_20) mf_X3_endsIn (recv_X3 sh_8 Γ hI) gw_26 rfl rfl ⟨Nat.le_of_ble_eq_true rfl, Nat.le_of_ble_eq_true rfl⟩ rfl hl.1 rfl (Nat.le_of_ble_eq_true rfl) dX0_leastOpenRing_31 ⟨Nat.zero_le _, Nat.zero_le _⟩) (fun H locs hI => ?_)
        clear hr_20
        refine lv_iconst (v := (2 : Int32)) Γ.1.1 Γ.1.2.1 dX0_leastOpenRing_34 (by decide) ?_
        refine lv_icmp_le (tgt := 45) Γ.1.1 Γ.1.2.1 dX0_leastOpenRing_35 (by decide) (fun c_22 => ?_) (fun c_22 => ?_)
        · replace h := ite_pos c_22 h; clear c_22
          obtain ⟨v4_23, e_v4_23, h⟩ := nm_some h
          refine lv_iinc (v := v4_23) (lv' := [(4, .int v4_23), (0, .ref (X.2.1 + 57)), (1, .ref (X.2.1 + 8)), (2, .ref (X.2.1 + 49)), (3, .int v3)]) Γ.1.1 Γ.1.2.1 dX0_leastOpenRing_45 hl (k := 4) rfl (by rw [e_v4_23]; rfl) (by decide) rfl (fun ls hl => ?_)
          clear e_v4_23
          refine lv_goto (tgt := 5) Γ.1.1 Γ.1.2.1 dX0_leastOpenRing_48 (by decide) ?_
          exact ih v3 v4_23 _ _ _ hI (lv_sub hl [1, 2, 3, 4, 0] rfl) h
        · replace h := ite_neg c_22 h; clear c_22
          refine lv_iload_n Γ.1.1 Γ.1.2.1 dX0_leastOpenRing_38 rfl (lv_at hl 3 rfl) ?_
          refine lv_iconst (v := (1 : Int32)) Γ.1.1 Γ.1.2.1 dX0_leastOpenRing_39 (by decide) ?_
          refine lv_iload Γ.1.1 Γ.1.2.1 dX0_leastOpenRing_40 (lv_at hl 4 rfl) ?_
          refine lv_ishl Γ.1.1 Γ.1.2.1 dX0_leastOpenRing_42 ?_
          refine lv_ior Γ.1.1 Γ.1.2.1 dX0_leastOpenRing_43 ?_
          refine lv_topi (fun v3_24 e_v3_24 => ?_)
          replace h := nm_at e_v3_24 h; clear e_v3_24
          refine lv_istore_n (lv' := [(3, .int v3_24), (0, .ref (X.2.1 + 57)), (1, .ref (X.2.1 + 8)), (2, .ref (X.2.1 + 49)), (4, .int v4)]) Γ.1.1 Γ.1.2.1 dX0_leastOpenRing_44 rfl hl (by decide) rfl (fun ls hl => ?_)
          obtain ⟨v4_25, e_v4_25, h⟩ := nm_some h
          refine lv_iinc (v := v4_25) (lv' := [(4, .int v4_25), (3, .int v3_24), (0, .ref (X.2.1 + 57)), (1, .ref (X.2.1 + 8)), (2, .ref (X.2.1 + 49))]) Γ.1.1 Γ.1.2.1 dX0_leastOpenRing_45 hl (k := 4) rfl (by rw [e_v4_25]; rfl) (by decide) rfl (fun ls hl => ?_)
          clear e_v4_25
          refine lv_goto (tgt := 5) Γ.1.1 Γ.1.2.1 dX0_leastOpenRing_48 (by decide) ?_
          exact ih v3_24 v4_25 _ _ _ hI (lv_sub hl [2, 3, 4, 1, 0] rfl) h
set_option maxRecDepth 20000 in
set_option maxHeartbeats 4000000 in
theorem S_X0_leastOpenRing (l : Launch) (X : GX) (σ : GM) (x : Int32) (h : f_X0_leastOpenRing σ = some x) : gMet l yX0_leastOpenRing cX0_leastOpenRing 8 (some .int) ({ frames := 2, cells := 0, slots := 0, locals := 47 } : Room) X σ [.ref (X.2.1 + 57), .ref (X.2.1 + 8), .ref (X.2.1 + 49)] (gQi X σ x) := by
  unfold f_X0_leastOpenRing at h
  refine gMet_of (lv := [(0, .ref (X.2.1 + 57)), (1, .ref (X.2.1 + 8)), (2, .ref (X.2.1 + 49))]) (by decide) rfl (Nat.le_of_ble_eq_true rfl) rfl (fun p e s m below meth c H ls Γ hI hl => ?_)
  refine lv_iconst (v := (0 : Int32)) Γ.1.1 Γ.1.2.1 dX0_leastOpenRing_0 (by decide) ?_
  refine lv_istore_n (lv' := [(3, .int (0 : Int32)), (0, .ref (X.2.1 + 57)), (1, .ref (X.2.1 + 8)), (2, .ref (X.2.1 + 49))]) Γ.1.1 Γ.1.2.1 dX0_leastOpenRing_1 rfl hl (by decide) rfl (fun ls hl => ?_)
  refine lv_iconst (v := (0 : Int32)) Γ.1.1 Γ.1.2.1 dX0_leastOpenRing_2 (by decide) ?_
  refine lv_istore (lv' := [(4, .int (0 : Int32)), (3, .int (0 : Int32)), (0, .ref (X.2.1 + 57)), (1, .ref (X.2.1 + 8)), (2, .ref (X.2.1 + 49))]) Γ.1.1 Γ.1.2.1 dX0_leastOpenRing_3 hl (by decide) rfl (fun ls hl => ?_)
  exact s_X0_leastOpenRing_L5 σ x Γ _ (0 : Int32) (0 : Int32) _ _ _ hI (lv_sub hl [2, 3, 4, 1, 0] rfl) h
set_option maxRecDepth 20000 in
set_option maxHeartbeats 4000000 in
theorem s_X0_takeFromRing_L47 {p : Program} {l : Launch} {e : Env} {s : State} {m : MethodId} {args : Array Value} {below : List Frame} {meth : Method} {c : Code} {X : GX} (σr : GM) (Γ : gC X p m meth c cX0_takeFromRing 5 s args RX0 none) (v1 : Int32) (v2 : Int64) :
    ∀ (k : Nat) (σ : GM) (v4 : Int32) (H : Heap) (locs : List Loc) (ls : Array Slot), gI X σ s H locs → lv_has ls 5 [(0, .ref (X.2.1 + 57)), (1, .int v1), (2, .long v2), (4, .int v4)] → f_X0_takeFromRing_L47 v1 v2 k σ v4 = some σr →
    W p l e ({ frames := 1, cells := 0, slots := 0, locals := 40 } : Room) s m args below meth c H locs 0 0 (MQ below (gQv X σr) args s 0 0 (gA X)) (F0 m 47 ls []) := by
  intro k
  induction k with
  | zero =>
    intro σ v4 H locs ls hI hl h
    exact absurd h (by simp [f_X0_takeFromRing_L47])
  | succ k ih =>
    intro σ v4 H locs ls hI hl h
    unfold f_X0_takeFromRing_L47 at h
    refine lv_iload Γ.1.1 Γ.1.2.1 dX0_takeFromRing_47 (lv_at hl 3 rfl) ?_
    refine lv_aload_n Γ.1.1 Γ.1.2.1 dX0_takeFromRing_49 rfl (lv_at hl 0 rfl) ?_
    refine get_X0_weights Γ hI gw_18 dX0_takeFromRing_50 ?_
    refine g_alen Γ hI sh_58 (by decide) (v := (12 : Int32)) (by decide) dX0_takeFromRing_53 ?_
    refine lv_icmp_ge (tgt := 83) Γ.1.1 Γ.1.2.1 dX0_takeFromRing_54 (by decide) (fun c_2 => ?_) (fun c_2 => ?_)
    · replace h := ite_pos c_2 h; clear c_2
      refine lv_aload_n Γ.1.1 Γ.1.2.1 dX0_takeFromRing_83 rfl (lv_at hl 0 rfl) ?_
      refine lv_dup Γ.1.1 Γ.1.2.1 dX0_takeFromRing_84 rfl ?_
      refine get_X0_sum Γ hI gw_22 dX0_takeFromRing_85 ?_
      refine lv_lload_n Γ.1.1 Γ.1.2.1 dX0_takeFromRing_88 rfl (lv_at hl 2 rfl) ?_
      refine lv_ladd Γ.1.1 Γ.1.2.1 dX0_takeFromRing_89 ?_
      refine put_X0_sum Γ hI gw_22 dX0_takeFromRing_90 (fun H locs hI => ?_)
      obtain ⟨σ_3, e_m_3, h⟩ := nm_some h
      rw [← e_m_3] at hI; clear e_m_3
      exact g_vret Γ hI dX0_takeFromRing_93 (Option.some.inj h)
    · replace h := ite_neg c_2 h; clear c_2
      refine lv_iload_n Γ.1.1 Γ.1.2.1 dX0_takeFromRing_57 rfl (lv_at hl 1 rfl) ?_
      refine lv_iload Γ.1.1 Γ.1.2.1 dX0_takeFromRing_58 (lv_at hl 3 rfl) ?_
      obtain ⟨r_4, hr_4, h⟩ := ob_some h
      refine g_ci Γ hI (g_runS (As := [.int v1, .int v4]) Γ hI (S_X3_holds l X σ v1 v4 r_4 hr_4) mf_X3_holds gw_25 rfl rfl ⟨Nat.le_of_ble_eq_true rfl, Nat.le_of_ble_eq_true rfl⟩ rfl hl.1 rfl (Nat.le_of_ble_eq_true rfl) dX0_takeFromRing_60 ⟨Nat.zero_le _, Nat.zero_le _⟩) (fun H locs hI => ?_)
      clear hr_4
      refine lv_if_eq (tgt := 77) Γ.1.1 Γ.1.2.1 dX0_takeFromRing_63 (by decide) (fun c_6 => ?_) (fun c_6 => ?_)
      · replace h := ite_pos c_6 h; clear c_6
        obtain ⟨v4_7, e_v4_7, h⟩ := nm_some h
        refine lv_iinc (v := v4_7) (lv' := [(4, .int v4_7), (0, .ref (X.2.1 + 57)), (1, .int v1), (2, .long v2)]) Γ.1.1 Γ.1.2.1 dX0_takeFromRing_77 hl (k := 3) rfl (by rw [e_v4_7]; rfl) (by decide) rfl (fun ls hl => ?_)
        clear e_v4_7
        refine lv_goto (tgt := 47) Γ.1.1 Γ.1.2.1 dX0_takeFromRing_80 (by decide) ?_
        exact ih σ v4_7 _ _ _ hI (lv_sub hl [1, 2, 3, 0] rfl) h
      · replace h := ite_neg c_6 h; clear c_6
        refine lv_aload_n Γ.1.1 Γ.1.2.1 dX0_takeFromRing_66 rfl (lv_at hl 0 rfl) ?_
        refine get_X0_weights Γ hI gw_18 dX0_takeFromRing_67 ?_
        refine lv_iload Γ.1.1 Γ.1.2.1 dX0_takeFromRing_70 (lv_at hl 3 rfl) ?_
        refine lv_dup2_11 Γ.1.1 Γ.1.2.1 dX0_takeFromRing_72 rfl rfl ?_
        obtain ⟨hb_8, h⟩ := bnd_some h
        refine g_lald Γ hI sh_58 hb_8 dX0_takeFromRing_73 ?_
        refine lv_lload_n Γ.1.1 Γ.1.2.1 dX0_takeFromRing_74 rfl (lv_at hl 2 rfl) ?_
        refine lv_lsub Γ.1.1 Γ.1.2.1 dX0_takeFromRing_75 ?_
        obtain ⟨hb_9, h⟩ := bnd_some h
        refine g_last Γ hI sh_58 hb_9 dX0_takeFromRing_76 (fun H locs hI => ?_)
        obtain ⟨σ_10, e_m_10, h⟩ := nm_some h
        rw [← e_m_10] at hI; clear e_m_10
        obtain ⟨v4_11, e_v4_11, h⟩ := nm_some h
        refine lv_iinc (v := v4_11) (lv' := [(4, .int v4_11), (0, .ref (X.2.1 + 57)), (1, .int v1), (2, .long v2)]) Γ.1.1 Γ.1.2.1 dX0_takeFromRing_77 hl (k := 3) rfl (by rw [e_v4_11]; rfl) (by decide) rfl (fun ls hl => ?_)
        clear e_v4_11
        refine lv_goto (tgt := 47) Γ.1.1 Γ.1.2.1 dX0_takeFromRing_80 (by decide) ?_
        exact ih σ_10 v4_11 _ _ _ hI (lv_sub hl [1, 2, 3, 0] rfl) h
set_option maxRecDepth 20000 in
set_option maxHeartbeats 4000000 in
theorem s_X0_takeFromRing_L7 {p : Program} {l : Launch} {e : Env} {s : State} {m : MethodId} {args : Array Value} {below : List Frame} {meth : Method} {c : Code} {X : GX} (σr : GM) (Γ : gC X p m meth c cX0_takeFromRing 5 s args RX0 none) (v1 : Int32) :
    ∀ (k : Nat) (σ : GM) (v2 : Int64) (v4 : Int32) (H : Heap) (locs : List Loc) (ls : Array Slot), gI X σ s H locs → lv_has ls 5 [(0, .ref (X.2.1 + 57)), (1, .int v1), (2, .long v2), (4, .int v4)] → f_X0_takeFromRing_L7 v1 k σ v2 v4 = some σr →
    W p l e ({ frames := 1, cells := 0, slots := 0, locals := 40 } : Room) s m args below meth c H locs 0 0 (MQ below (gQv X σr) args s 0 0 (gA X)) (F0 m 7 ls []) := by
  intro k
  induction k with
  | zero =>
    intro σ v2 v4 H locs ls hI hl h
    exact absurd h (by simp [f_X0_takeFromRing_L7])
  | succ k ih =>
    intro σ v2 v4 H locs ls hI hl h
    unfold f_X0_takeFromRing_L7 at h
    refine lv_iload Γ.1.1 Γ.1.2.1 dX0_takeFromRing_7 (lv_at hl 3 rfl) ?_
    refine lv_aload_n Γ.1.1 Γ.1.2.1 dX0_takeFromRing_9 rfl (lv_at hl 0 rfl) ?_
    refine get_X0_weights Γ hI gw_18 dX0_takeFromRing_10 ?_
    refine g_alen Γ hI sh_58 (by decide) (v := (12 : Int32)) (by decide) dX0_takeFromRing_13 ?_
    refine lv_icmp_ge (tgt := 44) Γ.1.1 Γ.1.2.1 dX0_takeFromRing_14 (by decide) (fun c_1 => ?_) (fun c_1 => ?_)
    · replace h := ite_pos c_1 h; clear c_1
      refine lv_iconst (v := (0 : Int32)) Γ.1.1 Γ.1.2.1 dX0_takeFromRing_44 (by decide) ?_
      refine lv_istore (lv' := [(4, .int (0 : Int32)), (0, .ref (X.2.1 + 57)), (1, .int v1), (2, .long v2)]) Γ.1.1 Γ.1.2.1 dX0_takeFromRing_45 hl (by decide) rfl (fun ls hl => ?_)
      exact s_X0_takeFromRing_L47 σr Γ v1 v2 _ σ (0 : Int32) _ _ _ hI (lv_sub hl [1, 2, 3, 0] rfl) h
    · replace h := ite_neg c_1 h; clear c_1
      refine lv_iload_n Γ.1.1 Γ.1.2.1 dX0_takeFromRing_17 rfl (lv_at hl 1 rfl) ?_
      refine lv_iload Γ.1.1 Γ.1.2.1 dX0_takeFromRing_18 (lv_at hl 3 rfl) ?_
      obtain ⟨r_12, hr_12, h⟩ := ob_some h
      refine g_ci Γ hI (g_runS (As := [.int v1, .int v4]) Γ hI (S_X3_holds l X σ v1 v4 r_12 hr_12) mf_X3_holds gw_25 rfl rfl ⟨Nat.le_of_ble_eq_true rfl, Nat.le_of_ble_eq_true rfl⟩ rfl hl.1 rfl (Nat.le_of_ble_eq_true rfl) dX0_takeFromRing_20 ⟨Nat.zero_le _, Nat.zero_le _⟩) (fun H locs hI => ?_)
      clear hr_12
      refine lv_if_eq (tgt := 38) Γ.1.1 Γ.1.2.1 dX0_takeFromRing_23 (by decide) (fun c_14 => ?_) (fun c_14 => ?_)
      · replace h := ite_pos c_14 h; clear c_14
        obtain ⟨v4_15, e_v4_15, h⟩ := nm_some h
        refine lv_iinc (v := v4_15) (lv' := [(4, .int v4_15), (0, .ref (X.2.1 + 57)), (1, .int v1), (2, .long v2)]) Γ.1.1 Γ.1.2.1 dX0_takeFromRing_38 hl (k := 3) rfl (by rw [e_v4_15]; rfl) (by decide) rfl (fun ls hl => ?_)
        clear e_v4_15
        refine lv_goto (tgt := 7) Γ.1.1 Γ.1.2.1 dX0_takeFromRing_41 (by decide) ?_
        exact ih σ v2 v4_15 _ _ _ hI (lv_sub hl [1, 2, 3, 0] rfl) h
      · replace h := ite_neg c_14 h; clear c_14
        refine lv_lload_n Γ.1.1 Γ.1.2.1 dX0_takeFromRing_26 rfl (lv_at hl 2 rfl) ?_
        refine lv_aload_n Γ.1.1 Γ.1.2.1 dX0_takeFromRing_27 rfl (lv_at hl 0 rfl) ?_
        refine get_X0_weights Γ hI gw_18 dX0_takeFromRing_28 ?_
        refine lv_iload Γ.1.1 Γ.1.2.1 dX0_takeFromRing_31 (lv_at hl 3 rfl) ?_
        obtain ⟨hb_16, h⟩ := bnd_some h
        refine g_lald Γ hI sh_58 hb_16 dX0_takeFromRing_33 ?_
        refine va_mmin_long Γ.1.1 Γ.1.2.1 (Γ.1.2.2.1.trans hl.1.symm) Γ.1.2.2.2.1 (Γ.1.2.2.2.2 _ gw_33) (Γ.1.2.2.2.2 _ gw_34) (Γ.1.2.2.2.2 _ gw_35) (Γ.1.2.2.2.2 _ gw_36) (Nat.le_of_ble_eq_true rfl) (Nat.le_of_ble_eq_true rfl) (Nat.zero_le _) (Nat.zero_le _) dX0_takeFromRing_34 ?_
        refine lv_topl (fun v2_17 e_v2_17 => ?_)
        replace h := nm_at e_v2_17 h; clear e_v2_17
        refine lv_lstore_n (lv' := [(2, .long v2_17), (0, .ref (X.2.1 + 57)), (1, .int v1), (4, .int v4)]) Γ.1.1 Γ.1.2.1 dX0_takeFromRing_37 rfl hl (by decide) rfl (fun ls hl => ?_)
        obtain ⟨v4_18, e_v4_18, h⟩ := nm_some h
        refine lv_iinc (v := v4_18) (lv' := [(4, .int v4_18), (2, .long v2_17), (0, .ref (X.2.1 + 57)), (1, .int v1)]) Γ.1.1 Γ.1.2.1 dX0_takeFromRing_38 hl (k := 3) rfl (by rw [e_v4_18]; rfl) (by decide) rfl (fun ls hl => ?_)
        clear e_v4_18
        refine lv_goto (tgt := 7) Γ.1.1 Γ.1.2.1 dX0_takeFromRing_41 (by decide) ?_
        exact ih σ v2_17 v4_18 _ _ _ hI (lv_sub hl [2, 3, 1, 0] rfl) h
set_option maxRecDepth 20000 in
set_option maxHeartbeats 4000000 in
theorem S_X0_takeFromRing (l : Launch) (X : GX) (σ : GM) (v1 : Int32) (σr : GM) (h : f_X0_takeFromRing σ v1 = some σr) : gMet l yX0_takeFromRing cX0_takeFromRing 5 none ({ frames := 1, cells := 0, slots := 0, locals := 40 } : Room) X σ [.ref (X.2.1 + 57), .int v1] (gQv X σr) := by
  unfold f_X0_takeFromRing at h
  refine gMet_of (lv := [(0, .ref (X.2.1 + 57)), (1, .int v1)]) (by decide) rfl (Nat.le_of_ble_eq_true rfl) rfl (fun p e s m below meth c H ls Γ hI hl => ?_)
  refine lv_ldc2 (v := (9223372036854775807 : Int64)) Γ.1.1 Γ.1.2.1 Γ.1.2.2.2.1 (Γ.1.2.2.2.2 _ gw_32) dX0_takeFromRing_0 ?_
  refine lv_lstore_n (lv' := [(2, .long (9223372036854775807 : Int64)), (0, .ref (X.2.1 + 57)), (1, .int v1)]) Γ.1.1 Γ.1.2.1 dX0_takeFromRing_3 rfl hl (by decide) rfl (fun ls hl => ?_)
  refine lv_iconst (v := (0 : Int32)) Γ.1.1 Γ.1.2.1 dX0_takeFromRing_4 (by decide) ?_
  refine lv_istore (lv' := [(4, .int (0 : Int32)), (2, .long (9223372036854775807 : Int64)), (0, .ref (X.2.1 + 57)), (1, .int v1)]) Γ.1.1 Γ.1.2.1 dX0_takeFromRing_5 hl (by decide) rfl (fun ls hl => ?_)
  exact s_X0_takeFromRing_L7 σr Γ v1 _ σ (9223372036854775807 : Int64) (0 : Int32) _ _ _ hI (lv_sub hl [2, 3, 1, 0] rfl) h
set_option maxRecDepth 20000 in
set_option maxHeartbeats 4000000 in
theorem s_X0_takeFromAll_L180 {p : Program} {l : Launch} {e : Env} {s : State} {m : MethodId} {args : Array Value} {below : List Frame} {meth : Method} {c : Code} {X : GX} (σr : GM) (Γ : gC X p m meth c cX0_takeFromAll 7 s args RX0 none) :
    ∀ (σ : GM) (v2 : Int64) (H : Heap) (locs : List Loc) (ls : Array Slot), gI X σ s H locs → lv_has ls 7 [(0, .ref (X.2.1 + 57)), (1, .ref (X.2.1 + 8)), (2, .long v2)] → f_X0_takeFromAll_L180 σ v2 = some σr →
    W p l e ({ frames := 4, cells := 0, slots := 0, locals := 91 } : Room) s m args below meth c H locs 0 0 (MQ below (gQv X σr) args s 0 0 (gA X)) (F0 m 180 ls []) := by
  intro σ v2 H locs ls hI hl h
  unfold f_X0_takeFromAll_L180 at h
  refine lv_aload_n Γ.1.1 Γ.1.2.1 dX0_takeFromAll_180 rfl (lv_at hl 0 rfl) ?_
  refine lv_dup Γ.1.1 Γ.1.2.1 dX0_takeFromAll_181 rfl ?_
  refine get_X0_sum Γ hI gw_22 dX0_takeFromAll_182 ?_
  refine lv_lload_n Γ.1.1 Γ.1.2.1 dX0_takeFromAll_185 rfl (lv_at hl 2 rfl) ?_
  refine lv_aload_n Γ.1.1 Γ.1.2.1 dX0_takeFromAll_186 rfl (lv_at hl 1 rfl) ?_
  refine lv_aload_n Γ.1.1 Γ.1.2.1 dX0_takeFromAll_187 rfl (lv_at hl 0 rfl) ?_
  refine get_X0_left Γ hI gw_20 dX0_takeFromAll_188 ?_
  obtain ⟨r_5, hr_5, h⟩ := ob_some h
  refine g_ci Γ hI (g_runV (As := [.int (σ.1 57 3)]) Γ hI (S_X3_linesIn l X σ 8 sh_8 (σ.1 57 3) r_5 hr_5) mf_X3_linesIn (recv_X3 sh_8 Γ hI) gw_37 rfl rfl ⟨Nat.le_of_ble_eq_true rfl, Nat.le_of_ble_eq_true rfl⟩ rfl hl.1 rfl (Nat.le_of_ble_eq_true rfl) dX0_takeFromAll_191 ⟨Nat.zero_le _, Nat.zero_le _⟩) (fun H locs hI => ?_)
  clear hr_5
  refine lv_aload_n Γ.1.1 Γ.1.2.1 dX0_takeFromAll_194 rfl (lv_at hl 1 rfl) ?_
  refine lv_aload_n Γ.1.1 Γ.1.2.1 dX0_takeFromAll_195 rfl (lv_at hl 0 rfl) ?_
  refine get_X0_left Γ hI gw_20 dX0_takeFromAll_196 ?_
  obtain ⟨r_7, hr_7, h⟩ := ob_some h
  refine g_ci Γ hI (g_runV (As := [.int (σ.1 57 3)]) Γ hI (S_X3_partsIn l X σ 8 sh_8 (σ.1 57 3) r_7 hr_7) mf_X3_partsIn (recv_X3 sh_8 Γ hI) gw_38 rfl rfl ⟨Nat.le_of_ble_eq_true rfl, Nat.le_of_ble_eq_true rfl⟩ rfl hl.1 rfl (Nat.le_of_ble_eq_true rfl) dX0_takeFromAll_199 ⟨Nat.zero_le _, Nat.zero_le _⟩) (fun H locs hI => ?_)
  clear hr_7
  refine lv_iadd Γ.1.1 Γ.1.2.1 dX0_takeFromAll_202 ?_
  refine lv_aload_n Γ.1.1 Γ.1.2.1 dX0_takeFromAll_203 rfl (lv_at hl 0 rfl) ?_
  refine get_X0_left Γ hI gw_20 dX0_takeFromAll_204 ?_
  obtain ⟨r_9, hr_9, h⟩ := ob_some h
  refine g_ci Γ hI (g_runS (As := [.int (σ.1 57 3)]) Γ hI (S_J6_bitCount_0f7a4 l X σ (σ.1 57 3) r_9 hr_9) mf_J6_bitCount_0f7a4 gw_31 rfl rfl ⟨Nat.le_of_ble_eq_true rfl, Nat.le_of_ble_eq_true rfl⟩ rfl hl.1 rfl (Nat.le_of_ble_eq_true rfl) dX0_takeFromAll_207 ⟨Nat.zero_le _, Nat.zero_le _⟩) (fun H locs hI => ?_)
  clear hr_9
  refine lv_isub Γ.1.1 Γ.1.2.1 dX0_takeFromAll_210 ?_
  refine lv_i2l (v := ((((r_5 + r_7) - r_9)).toInt64)) Γ.1.1 Γ.1.2.1 dX0_takeFromAll_211 rfl ?_
  refine lv_lmul Γ.1.1 Γ.1.2.1 dX0_takeFromAll_212 ?_
  refine lv_ladd Γ.1.1 Γ.1.2.1 dX0_takeFromAll_213 ?_
  refine put_X0_sum Γ hI gw_22 dX0_takeFromAll_214 (fun H locs hI => ?_)
  obtain ⟨σ_11, e_m_11, h⟩ := nm_some h
  rw [← e_m_11] at hI; clear e_m_11
  exact g_vret Γ hI dX0_takeFromAll_217 (Option.some.inj h)
set_option maxRecDepth 20000 in
set_option maxHeartbeats 4000000 in
theorem s_X0_takeFromAll_L114 {p : Program} {l : Launch} {e : Env} {s : State} {m : MethodId} {args : Array Value} {below : List Frame} {meth : Method} {c : Code} {X : GX} (σr : GM) (Γ : gC X p m meth c cX0_takeFromAll 7 s args RX0 none) (v2 : Int64) (v4 : Int32) :
    ∀ (k : Nat) (σ : GM) (v5 : Int32) (H : Heap) (locs : List Loc) (ls : Array Slot), gI X σ s H locs → lv_has ls 7 [(0, .ref (X.2.1 + 57)), (1, .ref (X.2.1 + 8)), (2, .long v2), (4, .int v4), (5, .int v5)] → f_X0_takeFromAll_L114 v2 v4 k σ v5 = some σr →
    W p l e ({ frames := 4, cells := 0, slots := 0, locals := 91 } : Room) s m args below meth c H locs 0 0 (MQ below (gQv X σr) args s 0 0 (gA X)) (F0 m 114 ls []) := by
  intro k
  induction k with
  | zero =>
    intro σ v5 H locs ls hI hl h
    exact absurd h (by simp [f_X0_takeFromAll_L114])
  | succ k ih =>
    intro σ v5 H locs ls hI hl h
    unfold f_X0_takeFromAll_L114 at h
    refine lv_iload Γ.1.1 Γ.1.2.1 dX0_takeFromAll_114 (lv_at hl 4 rfl) ?_
    refine lv_aload_n Γ.1.1 Γ.1.2.1 dX0_takeFromAll_116 rfl (lv_at hl 0 rfl) ?_
    refine get_X0_weights Γ hI gw_18 dX0_takeFromAll_117 ?_
    refine g_alen Γ hI sh_58 (by decide) (v := (12 : Int32)) (by decide) dX0_takeFromAll_120 ?_
    refine lv_icmp_ge (tgt := 180) Γ.1.1 Γ.1.2.1 dX0_takeFromAll_121 (by decide) (fun c_4 => ?_) (fun c_4 => ?_)
    · replace h := ite_pos c_4 h; clear c_4
      exact s_X0_takeFromAll_L180 σr Γ σ v2 _ _ _ hI (lv_sub hl [0, 1, 2] rfl) h
    · replace h := ite_neg c_4 h; clear c_4
      refine lv_aload_n Γ.1.1 Γ.1.2.1 dX0_takeFromAll_124 rfl (lv_at hl 0 rfl) ?_
      refine get_X0_weights Γ hI gw_18 dX0_takeFromAll_125 ?_
      refine lv_iload Γ.1.1 Γ.1.2.1 dX0_takeFromAll_128 (lv_at hl 4 rfl) ?_
      refine lv_dup2_11 Γ.1.1 Γ.1.2.1 dX0_takeFromAll_130 rfl rfl ?_
      obtain ⟨hb_12, h⟩ := bnd_some h
      refine g_lald Γ hI sh_58 hb_12 dX0_takeFromAll_131 ?_
      refine lv_iload Γ.1.1 Γ.1.2.1 dX0_takeFromAll_132 (lv_at hl 3 rfl) ?_
      refine lv_i2l (v := (v4.toInt64)) Γ.1.1 Γ.1.2.1 dX0_takeFromAll_134 rfl ?_
      refine lv_lmul Γ.1.1 Γ.1.2.1 dX0_takeFromAll_135 ?_
      obtain ⟨hb_13, h⟩ := bnd_some h
      refine g_last Γ hI sh_58 hb_13 dX0_takeFromAll_136 (fun H locs hI => ?_)
      obtain ⟨σ_14, e_m_14, h⟩ := nm_some h
      rw [← e_m_14] at hI; clear e_m_14
      refine lv_aload_n Γ.1.1 Γ.1.2.1 dX0_takeFromAll_137 rfl (lv_at hl 0 rfl) ?_
      refine get_X0_left Γ hI gw_20 dX0_takeFromAll_138 ?_
      refine lv_iload Γ.1.1 Γ.1.2.1 dX0_takeFromAll_141 (lv_at hl 4 rfl) ?_
      obtain ⟨r_15, hr_15, h⟩ := ob_some h
      refine g_ci Γ hI (g_runS (As := [.int (σ_14.1 57 3), .int v5]) Γ hI (S_X3_holds l X σ_14 (σ_14.1 57 3) v5 r_15 hr_15) mf_X3_holds gw_25 rfl rfl ⟨Nat.le_of_ble_eq_true rfl, Nat.le_of_ble_eq_true rfl⟩ rfl hl.1 rfl (Nat.le_of_ble_eq_true rfl) dX0_takeFromAll_143 ⟨Nat.zero_le _, Nat.zero_le _⟩) (fun H locs hI => ?_)
      clear hr_15
      refine lv_if_eq (tgt := 174) Γ.1.1 Γ.1.2.1 dX0_takeFromAll_146 (by decide) (fun c_17 => ?_) (fun c_17 => ?_)
      · replace h := ite_pos c_17 h; clear c_17
        obtain ⟨v5_18, e_v5_18, h⟩ := nm_some h
        refine lv_iinc (v := v5_18) (lv' := [(5, .int v5_18), (0, .ref (X.2.1 + 57)), (1, .ref (X.2.1 + 8)), (2, .long v2), (4, .int v4)]) Γ.1.1 Γ.1.2.1 dX0_takeFromAll_174 hl (k := 4) rfl (by rw [e_v5_18]; rfl) (by decide) rfl (fun ls hl => ?_)
        clear e_v5_18
        refine lv_goto (tgt := 114) Γ.1.1 Γ.1.2.1 dX0_takeFromAll_177 (by decide) ?_
        exact ih σ_14 v5_18 _ _ _ hI (lv_sub hl [1, 2, 3, 4, 0] rfl) h
      · replace h := ite_neg c_17 h; clear c_17
        refine lv_aload_n Γ.1.1 Γ.1.2.1 dX0_takeFromAll_149 rfl (lv_at hl 0 rfl) ?_
        refine get_X0_weights Γ hI gw_18 dX0_takeFromAll_150 ?_
        refine lv_iload Γ.1.1 Γ.1.2.1 dX0_takeFromAll_153 (lv_at hl 4 rfl) ?_
        refine lv_dup2_11 Γ.1.1 Γ.1.2.1 dX0_takeFromAll_155 rfl rfl ?_
        obtain ⟨hb_19, h⟩ := bnd_some h
        refine g_lald Γ hI sh_58 hb_19 dX0_takeFromAll_156 ?_
        refine lv_lload_n Γ.1.1 Γ.1.2.1 dX0_takeFromAll_157 rfl (lv_at hl 2 rfl) ?_
        refine lv_aload_n Γ.1.1 Γ.1.2.1 dX0_takeFromAll_158 rfl (lv_at hl 1 rfl) ?_
        refine lv_iload Γ.1.1 Γ.1.2.1 dX0_takeFromAll_159 (lv_at hl 4 rfl) ?_
        refine lv_aload_n Γ.1.1 Γ.1.2.1 dX0_takeFromAll_161 rfl (lv_at hl 0 rfl) ?_
        refine get_X0_left Γ hI gw_20 dX0_takeFromAll_162 ?_
        obtain ⟨r_20, hr_20, h⟩ := ob_some h
        refine g_ci Γ hI (g_runV (As := [.int v5, .int (σ_14.1 57 3)]) Γ hI (S_X3_endsIn l X σ_14 8 sh_8 v5 (σ_14.1 57 3) r_20 hr_20) mf_X3_endsIn (recv_X3 sh_8 Γ hI) gw_26 rfl rfl ⟨Nat.le_of_ble_eq_true rfl, Nat.le_of_ble_eq_true rfl⟩ rfl hl.1 rfl (Nat.le_of_ble_eq_true rfl) dX0_takeFromAll_165 ⟨Nat.zero_le _, Nat.zero_le _⟩) (fun H locs hI => ?_)
        clear hr_20
        refine lv_iconst (v := (1 : Int32)) Γ.1.1 Γ.1.2.1 dX0_takeFromAll_168 (by decide) ?_
        refine lv_isub Γ.1.1 Γ.1.2.1 dX0_takeFromAll_169 ?_
        refine lv_i2l (v := (((r_20 - (1 : Int32))).toInt64)) Γ.1.1 Γ.1.2.1 dX0_takeFromAll_170 rfl ?_
        refine lv_lmul Γ.1.1 Γ.1.2.1 dX0_takeFromAll_171 ?_
        refine lv_lsub Γ.1.1 Γ.1.2.1 dX0_takeFromAll_172 ?_
        obtain ⟨hb_22, h⟩ := bnd_some h
        refine g_last Γ hI sh_58 hb_22 dX0_takeFromAll_173 (fun H locs hI => ?_)
        obtain ⟨σ_23, e_m_23, h⟩ := nm_some h
        rw [← e_m_23] at hI; clear e_m_23
        obtain ⟨v5_24, e_v5_24, h⟩ := nm_some h
        refine lv_iinc (v := v5_24) (lv' := [(5, .int v5_24), (0, .ref (X.2.1 + 57)), (1, .ref (X.2.1 + 8)), (2, .long v2), (4, .int v4)]) Γ.1.1 Γ.1.2.1 dX0_takeFromAll_174 hl (k := 4) rfl (by rw [e_v5_24]; rfl) (by decide) rfl (fun ls hl => ?_)
        clear e_v5_24
        refine lv_goto (tgt := 114) Γ.1.1 Γ.1.2.1 dX0_takeFromAll_177 (by decide) ?_
        exact ih σ_23 v5_24 _ _ _ hI (lv_sub hl [1, 2, 3, 4, 0] rfl) h
set_option maxRecDepth 20000 in
set_option maxHeartbeats 4000000 in
theorem s_X0_takeFromAll_L87 {p : Program} {l : Launch} {e : Env} {s : State} {m : MethodId} {args : Array Value} {below : List Frame} {meth : Method} {c : Code} {X : GX} (σr : GM) (Γ : gC X p m meth c cX0_takeFromAll 7 s args RX0 none) :
    ∀ (σ : GM) (v2 : Int64) (v4 : Int32) (H : Heap) (locs : List Loc) (ls : Array Slot), gI X σ s H locs → lv_has ls 7 [(0, .ref (X.2.1 + 57)), (1, .ref (X.2.1 + 8)), (2, .long v2), (4, .int v4)] → f_X0_takeFromAll_L87 σ v2 v4 = some σr →
    W p l e ({ frames := 4, cells := 0, slots := 0, locals := 91 } : Room) s m args below meth c H locs 0 0 (MQ below (gQv X σr) args s 0 0 (gA X)) (F0 m 87 ls []) := by
  intro σ v2 v4 H locs ls hI hl h
  unfold f_X0_takeFromAll_L87 at h
  refine lv_aload_n Γ.1.1 Γ.1.2.1 dX0_takeFromAll_87 rfl (lv_at hl 0 rfl) ?_
  refine lv_dup Γ.1.1 Γ.1.2.1 dX0_takeFromAll_88 rfl ?_
  refine get_X0_below Γ hI gw_23 dX0_takeFromAll_89 ?_
  refine lv_iload Γ.1.1 Γ.1.2.1 dX0_takeFromAll_92 (lv_at hl 3 rfl) ?_
  refine lv_i2l (v := (v4.toInt64)) Γ.1.1 Γ.1.2.1 dX0_takeFromAll_94 rfl ?_
  refine lv_lmul Γ.1.1 Γ.1.2.1 dX0_takeFromAll_95 ?_
  refine put_X0_below Γ hI gw_23 dX0_takeFromAll_96 (fun H locs hI => ?_)
  obtain ⟨σ_2, e_m_2, h⟩ := nm_some h
  rw [← e_m_2] at hI; clear e_m_2
  refine lv_aload_n Γ.1.1 Γ.1.2.1 dX0_takeFromAll_99 rfl (lv_at hl 0 rfl) ?_
  refine lv_dup Γ.1.1 Γ.1.2.1 dX0_takeFromAll_100 rfl ?_
  refine get_X0_sum Γ hI gw_22 dX0_takeFromAll_101 ?_
  refine lv_iload Γ.1.1 Γ.1.2.1 dX0_takeFromAll_104 (lv_at hl 3 rfl) ?_
  refine lv_i2l (v := (v4.toInt64)) Γ.1.1 Γ.1.2.1 dX0_takeFromAll_106 rfl ?_
  refine lv_lmul Γ.1.1 Γ.1.2.1 dX0_takeFromAll_107 ?_
  refine put_X0_sum Γ hI gw_22 dX0_takeFromAll_108 (fun H locs hI => ?_)
  obtain ⟨σ_3, e_m_3, h⟩ := nm_some h
  rw [← e_m_3] at hI; clear e_m_3
  refine lv_iconst (v := (0 : Int32)) Γ.1.1 Γ.1.2.1 dX0_takeFromAll_111 (by decide) ?_
  refine lv_istore (lv' := [(5, .int (0 : Int32)), (0, .ref (X.2.1 + 57)), (1, .ref (X.2.1 + 8)), (2, .long v2), (4, .int v4)]) Γ.1.1 Γ.1.2.1 dX0_takeFromAll_112 hl (by decide) rfl (fun ls hl => ?_)
  exact s_X0_takeFromAll_L114 σr Γ v2 v4 _ σ_3 (0 : Int32) _ _ _ hI (lv_sub hl [1, 2, 3, 4, 0] rfl) h
set_option maxRecDepth 20000 in
set_option maxHeartbeats 4000000 in
theorem s_X0_takeFromAll_L69 {p : Program} {l : Launch} {e : Env} {s : State} {m : MethodId} {args : Array Value} {below : List Frame} {meth : Method} {c : Code} {X : GX} (σr : GM) (Γ : gC X p m meth c cX0_takeFromAll 7 s args RX0 none) (k8 : GM → Int64 → Int32 → Int32 → Option GM) (hk8 : ∀ (σ : GM) (v2 : Int64) (v4 : Int32) (v5 : Int32) (H : Heap) (locs : List Loc) (ls : Array Slot), gI X σ s H locs → lv_has ls 7 [(0, .ref (X.2.1 + 57)), (1, .ref (X.2.1 + 8)), (2, .long v2), (4, .int v4), (5, .int v5)] → k8 σ v2 v4 v5 = some σr → W p l e ({ frames := 4, cells := 0, slots := 0, locals := 91 } : Room) s m args below meth c H locs 0 0 (MQ below (gQv X σr) args s 0 0 (gA X)) (F0 m 8 ls [])) :
    ∀ (σ : GM) (v5 : Int32) (v6 : Int32) (H : Heap) (locs : List Loc) (ls : Array Slot), gI X σ s H locs → lv_has ls 7 [(0, .ref (X.2.1 + 57)), (1, .ref (X.2.1 + 8)), (5, .int v5), (6, .int v6)] → f_X0_takeFromAll_L69 k8 σ v5 v6 = some σr →
    W p l e ({ frames := 4, cells := 0, slots := 0, locals := 91 } : Room) s m args below meth c H locs 0 0 (MQ below (gQv X σr) args s 0 0 (gA X)) (F0 m 69 ls []) := by
  intro σ v5 v6 H locs ls hI hl h
  unfold f_X0_takeFromAll_L69 at h
  refine lv_aload_n Γ.1.1 Γ.1.2.1 dX0_takeFromAll_69 rfl (lv_at hl 0 rfl) ?_
  refine get_X0_weights Γ hI gw_18 dX0_takeFromAll_70 ?_
  refine lv_iload Γ.1.1 Γ.1.2.1 dX0_takeFromAll_73 (lv_at hl 2 rfl) ?_
  obtain ⟨hb_33, h⟩ := bnd_some h
  refine g_lald Γ hI sh_58 hb_33 dX0_takeFromAll_75 ?_
  refine lv_topl (fun v2_34 e_v2_34 => ?_)
  replace h := nm_at e_v2_34 h; clear e_v2_34
  refine lv_lstore_n (lv' := [(2, .long v2_34), (0, .ref (X.2.1 + 57)), (1, .ref (X.2.1 + 8)), (5, .int v5), (6, .int v6)]) Γ.1.1 Γ.1.2.1 dX0_takeFromAll_76 rfl hl (by decide) rfl (fun ls hl => ?_)
  refine lv_iload Γ.1.1 Γ.1.2.1 dX0_takeFromAll_77 (lv_at hl 4 rfl) ?_
  refine lv_istore (lv' := [(4, .int v6), (2, .long v2_34), (0, .ref (X.2.1 + 57)), (1, .ref (X.2.1 + 8)), (5, .int v5), (6, .int v6)]) Γ.1.1 Γ.1.2.1 dX0_takeFromAll_79 hl (by decide) rfl (fun ls hl => ?_)
  obtain ⟨v5_35, e_v5_35, h⟩ := nm_some h
  refine lv_iinc (v := v5_35) (lv' := [(5, .int v5_35), (4, .int v6), (2, .long v2_34), (0, .ref (X.2.1 + 57)), (1, .ref (X.2.1 + 8)), (6, .int v6)]) Γ.1.1 Γ.1.2.1 dX0_takeFromAll_81 hl (k := 4) rfl (by rw [e_v5_35]; rfl) (by decide) rfl (fun ls hl => ?_)
  clear e_v5_35
  refine lv_goto (tgt := 8) Γ.1.1 Γ.1.2.1 dX0_takeFromAll_84 (by decide) ?_
  exact hk8 σ v2_34 v6 v5_35 _ _ _ hI (lv_sub hl [3, 4, 2, 1, 0] rfl) h
set_option maxRecDepth 20000 in
set_option maxHeartbeats 4000000 in
theorem s_X0_takeFromAll_L8 {p : Program} {l : Launch} {e : Env} {s : State} {m : MethodId} {args : Array Value} {below : List Frame} {meth : Method} {c : Code} {X : GX} (σr : GM) (Γ : gC X p m meth c cX0_takeFromAll 7 s args RX0 none) :
    ∀ (k : Nat) (σ : GM) (v2 : Int64) (v4 : Int32) (v5 : Int32) (H : Heap) (locs : List Loc) (ls : Array Slot), gI X σ s H locs → lv_has ls 7 [(0, .ref (X.2.1 + 57)), (1, .ref (X.2.1 + 8)), (2, .long v2), (4, .int v4), (5, .int v5)] → f_X0_takeFromAll_L8 k σ v2 v4 v5 = some σr →
    W p l e ({ frames := 4, cells := 0, slots := 0, locals := 91 } : Room) s m args below meth c H locs 0 0 (MQ below (gQv X σr) args s 0 0 (gA X)) (F0 m 8 ls []) := by
  intro k
  induction k with
  | zero =>
    intro σ v2 v4 v5 H locs ls hI hl h
    exact absurd h (by simp [f_X0_takeFromAll_L8])
  | succ k ih =>
    intro σ v2 v4 v5 H locs ls hI hl h
    unfold f_X0_takeFromAll_L8 at h
    refine lv_iload Γ.1.1 Γ.1.2.1 dX0_takeFromAll_8 (lv_at hl 4 rfl) ?_
    refine lv_aload_n Γ.1.1 Γ.1.2.1 dX0_takeFromAll_10 rfl (lv_at hl 0 rfl) ?_
    refine get_X0_weights Γ hI gw_18 dX0_takeFromAll_11 ?_
    refine g_alen Γ hI sh_58 (by decide) (v := (12 : Int32)) (by decide) dX0_takeFromAll_14 ?_
    refine lv_icmp_ge (tgt := 87) Γ.1.1 Γ.1.2.1 dX0_takeFromAll_15 (by decide) (fun c_1 => ?_) (fun c_1 => ?_)
    · replace h := ite_pos c_1 h; clear c_1
      exact s_X0_takeFromAll_L87 σr Γ σ v2 v4 _ _ _ hI (lv_sub hl [0, 1, 2, 3] rfl) h
    · replace h := ite_neg c_1 h; clear c_1
      refine lv_aload_n Γ.1.1 Γ.1.2.1 dX0_takeFromAll_18 rfl (lv_at hl 0 rfl) ?_
      refine get_X0_left Γ hI gw_20 dX0_takeFromAll_19 ?_
      refine lv_iload Γ.1.1 Γ.1.2.1 dX0_takeFromAll_22 (lv_at hl 4 rfl) ?_
      obtain ⟨r_25, hr_25, h⟩ := ob_some h
      refine g_ci Γ hI (g_runS (As := [.int (σ.1 57 3), .int v5]) Γ hI (S_X3_holds l X σ (σ.1 57 3) v5 r_25 hr_25) mf_X3_holds gw_25 rfl rfl ⟨Nat.le_of_ble_eq_true rfl, Nat.le_of_ble_eq_true rfl⟩ rfl hl.1 rfl (Nat.le_of_ble_eq_true rfl) dX0_takeFromAll_24 ⟨Nat.zero_le _, Nat.zero_le _⟩) (fun H locs hI => ?_)
      clear hr_25
      refine lv_if_eq (tgt := 81) Γ.1.1 Γ.1.2.1 dX0_takeFromAll_27 (by decide) (fun c_27 => ?_) (fun c_27 => ?_)
      · replace h := ite_pos c_27 h; clear c_27
        obtain ⟨v5_28, e_v5_28, h⟩ := nm_some h
        refine lv_iinc (v := v5_28) (lv' := [(5, .int v5_28), (0, .ref (X.2.1 + 57)), (1, .ref (X.2.1 + 8)), (2, .long v2), (4, .int v4)]) Γ.1.1 Γ.1.2.1 dX0_takeFromAll_81 hl (k := 4) rfl (by rw [e_v5_28]; rfl) (by decide) rfl (fun ls hl => ?_)
        clear e_v5_28
        refine lv_goto (tgt := 8) Γ.1.1 Γ.1.2.1 dX0_takeFromAll_84 (by decide) ?_
        exact ih σ v2 v4 v5_28 _ _ _ hI (lv_sub hl [1, 2, 3, 4, 0] rfl) h
      · replace h := ite_neg c_27 h; clear c_27
        refine lv_aload_n Γ.1.1 Γ.1.2.1 dX0_takeFromAll_30 rfl (lv_at hl 1 rfl) ?_
        refine lv_iload Γ.1.1 Γ.1.2.1 dX0_takeFromAll_31 (lv_at hl 4 rfl) ?_
        refine lv_aload_n Γ.1.1 Γ.1.2.1 dX0_takeFromAll_33 rfl (lv_at hl 0 rfl) ?_
        refine get_X0_left Γ hI gw_20 dX0_takeFromAll_34 ?_
        obtain ⟨r_29, hr_29, h⟩ := ob_some h
        refine g_ci Γ hI (g_runV (As := [.int v5, .int (σ.1 57 3)]) Γ hI (S_X3_endsIn l X σ 8 sh_8 v5 (σ.1 57 3) r_29 hr_29) mf_X3_endsIn (recv_X3 sh_8 Γ hI) gw_26 rfl rfl ⟨Nat.le_of_ble_eq_true rfl, Nat.le_of_ble_eq_true rfl⟩ rfl hl.1 rfl (Nat.le_of_ble_eq_true rfl) dX0_takeFromAll_37 ⟨Nat.zero_le _, Nat.zero_le _⟩) (fun H locs hI => ?_)
        clear hr_29
        refine lv_iconst (v := (1 : Int32)) Γ.1.1 Γ.1.2.1 dX0_takeFromAll_40 (by decide) ?_
        refine lv_isub Γ.1.1 Γ.1.2.1 dX0_takeFromAll_41 ?_
        refine lv_topi (fun v6_31 e_v6_31 => ?_)
        replace h := nm_at e_v6_31 h; clear e_v6_31
        refine lv_istore (lv' := [(6, .int v6_31), (0, .ref (X.2.1 + 57)), (1, .ref (X.2.1 + 8)), (2, .long v2), (4, .int v4), (5, .int v5)]) Γ.1.1 Γ.1.2.1 dX0_takeFromAll_42 hl (by decide) rfl (fun ls hl => ?_)
        refine lv_iload Γ.1.1 Γ.1.2.1 dX0_takeFromAll_44 (lv_at hl 4 rfl) ?_
        refine lv_if_eq (tgt := 69) Γ.1.1 Γ.1.2.1 dX0_takeFromAll_46 (by decide) (fun c_32 => ?_) (fun c_32 => ?_)
        · replace h := ite_pos c_32 h; clear c_32
          exact s_X0_takeFromAll_L69 σr Γ _ ih σ v5 v6_31 _ _ _ hI (lv_sub hl [1, 2, 5, 0] rfl) h
        · replace h := ite_neg c_32 h; clear c_32
          refine lv_aload_n Γ.1.1 Γ.1.2.1 dX0_takeFromAll_49 rfl (lv_at hl 1 rfl) ?_
          refine get_X0_weights Γ hI gw_18 dX0_takeFromAll_50 ?_
          refine lv_iload Γ.1.1 Γ.1.2.1 dX0_takeFromAll_53 (lv_at hl 5 rfl) ?_
          obtain ⟨hb_36, h⟩ := bnd_some h
          refine g_lald Γ hI sh_58 hb_36 dX0_takeFromAll_55 ?_
          refine lv_iload Γ.1.1 Γ.1.2.1 dX0_takeFromAll_56 (lv_at hl 4 rfl) ?_
          refine lv_i2l (v := (v4.toInt64)) Γ.1.1 Γ.1.2.1 dX0_takeFromAll_58 rfl ?_
          refine lv_lmul Γ.1.1 Γ.1.2.1 dX0_takeFromAll_59 ?_
          refine lv_lload_n Γ.1.1 Γ.1.2.1 dX0_takeFromAll_60 rfl (lv_at hl 3 rfl) ?_
          refine lv_iload Γ.1.1 Γ.1.2.1 dX0_takeFromAll_61 (lv_at hl 0 rfl) ?_
          refine lv_i2l (v := (v6_31.toInt64)) Γ.1.1 Γ.1.2.1 dX0_takeFromAll_63 rfl ?_
          refine lv_lmul Γ.1.1 Γ.1.2.1 dX0_takeFromAll_64 ?_
          refine W.lcmp Γ.1.1 Γ.1.2.1 dX0_takeFromAll_65 ?_
          refine lv_if_ge (tgt := 81) Γ.1.1 Γ.1.2.1 dX0_takeFromAll_66 (by decide) (fun c_37 => ?_) (fun c_37 => ?_)
          · replace h := ite_pos c_37 h; clear c_37
            obtain ⟨v5_38, e_v5_38, h⟩ := nm_some h
            refine lv_iinc (v := v5_38) (lv' := [(5, .int v5_38), (6, .int v6_31), (0, .ref (X.2.1 + 57)), (1, .ref (X.2.1 + 8)), (2, .long v2), (4, .int v4)]) Γ.1.1 Γ.1.2.1 dX0_takeFromAll_81 hl (k := 5) rfl (by rw [e_v5_38]; rfl) (by decide) rfl (fun ls hl => ?_)
            clear e_v5_38
            refine lv_goto (tgt := 8) Γ.1.1 Γ.1.2.1 dX0_takeFromAll_84 (by decide) ?_
            exact ih σ v2 v4 v5_38 _ _ _ hI (lv_sub hl [2, 3, 4, 5, 0] rfl) h
          · replace h := ite_neg c_37 h; clear c_37
            exact s_X0_takeFromAll_L69 σr Γ _ ih σ v5 v6_31 _ _ _ hI (lv_sub hl [1, 2, 5, 0] rfl) h
set_option maxRecDepth 20000 in
set_option maxHeartbeats 4000000 in
theorem S_X0_takeFromAll (l : Launch) (X : GX) (σ : GM) (σr : GM) (h : f_X0_takeFromAll σ = some σr) : gMet l yX0_takeFromAll cX0_takeFromAll 7 none ({ frames := 4, cells := 0, slots := 0, locals := 91 } : Room) X σ [.ref (X.2.1 + 57), .ref (X.2.1 + 8)] (gQv X σr) := by
  unfold f_X0_takeFromAll at h
  refine gMet_of (lv := [(0, .ref (X.2.1 + 57)), (1, .ref (X.2.1 + 8))]) (by decide) rfl (Nat.le_of_ble_eq_true rfl) rfl (fun p e s m below meth c H ls Γ hI hl => ?_)
  refine lv_lconst (v := (0 : Int64)) Γ.1.1 Γ.1.2.1 dX0_takeFromAll_0 (by decide) ?_
  refine lv_lstore_n (lv' := [(2, .long (0 : Int64)), (0, .ref (X.2.1 + 57)), (1, .ref (X.2.1 + 8))]) Γ.1.1 Γ.1.2.1 dX0_takeFromAll_1 rfl hl (by decide) rfl (fun ls hl => ?_)
  refine lv_iconst (v := (0 : Int32)) Γ.1.1 Γ.1.2.1 dX0_takeFromAll_2 (by decide) ?_
  refine lv_istore (lv' := [(4, .int (0 : Int32)), (2, .long (0 : Int64)), (0, .ref (X.2.1 + 57)), (1, .ref (X.2.1 + 8))]) Γ.1.1 Γ.1.2.1 dX0_takeFromAll_3 hl (by decide) rfl (fun ls hl => ?_)
  refine lv_iconst (v := (0 : Int32)) Γ.1.1 Γ.1.2.1 dX0_takeFromAll_5 (by decide) ?_
  refine lv_istore (lv' := [(5, .int (0 : Int32)), (4, .int (0 : Int32)), (2, .long (0 : Int64)), (0, .ref (X.2.1 + 57)), (1, .ref (X.2.1 + 8))]) Γ.1.1 Γ.1.2.1 dX0_takeFromAll_6 hl (by decide) rfl (fun ls hl => ?_)
  exact s_X0_takeFromAll_L8 σr Γ _ σ (0 : Int64) (0 : Int32) (0 : Int32) _ _ _ hI (lv_sub hl [3, 4, 2, 1, 0] rfl) h
set_option maxRecDepth 20000 in
set_option maxHeartbeats 4000000 in
theorem s_X0_pileWeightless_L8 {p : Program} {l : Launch} {e : Env} {s : State} {m : MethodId} {args : Array Value} {below : List Frame} {meth : Method} {c : Code} {X : GX} (σr : GM) (Γ : gC X p m meth c cX0_pileWeightless 2 s args RX0 none) :
    ∀ (k : Nat) (σ : GM) (v1 : Int32) (H : Heap) (locs : List Loc) (ls : Array Slot), gI X σ s H locs → lv_has ls 2 [(0, .ref (X.2.1 + 57)), (1, .int v1)] → f_X0_pileWeightless_L8 k σ v1 = some σr →
    W p l e ({ frames := 1, cells := 0, slots := 0, locals := 21 } : Room) s m args below meth c H locs 0 0 (MQ below (gQv X σr) args s 0 0 (gA X)) (F0 m 8 ls []) := by
  intro k
  induction k with
  | zero =>
    intro σ v1 H locs ls hI hl h
    exact absurd h (by simp [f_X0_pileWeightless_L8])
  | succ k ih =>
    intro σ v1 H locs ls hI hl h
    unfold f_X0_pileWeightless_L8 at h
    refine lv_iload_n Γ.1.1 Γ.1.2.1 dX0_pileWeightless_8 rfl (lv_at hl 1 rfl) ?_
    refine lv_if_lt (tgt := 86) Γ.1.1 Γ.1.2.1 dX0_pileWeightless_9 (by decide) (fun c_2 => ?_) (fun c_2 => ?_)
    · replace h := ite_pos c_2 h; clear c_2
      exact g_vret Γ hI dX0_pileWeightless_86 (Option.some.inj h)
    · replace h := ite_neg c_2 h; clear c_2
      refine lv_aload_n Γ.1.1 Γ.1.2.1 dX0_pileWeightless_12 rfl (lv_at hl 0 rfl) ?_
      refine get_X0_left Γ hI gw_20 dX0_pileWeightless_13 ?_
      refine lv_iload_n Γ.1.1 Γ.1.2.1 dX0_pileWeightless_16 rfl (lv_at hl 1 rfl) ?_
      obtain ⟨r_3, hr_3, h⟩ := ob_some h
      refine g_ci Γ hI (g_runS (As := [.int (σ.1 57 3), .int v1]) Γ hI (S_X3_holds l X σ (σ.1 57 3) v1 r_3 hr_3) mf_X3_holds gw_25 rfl rfl ⟨Nat.le_of_ble_eq_true rfl, Nat.le_of_ble_eq_true rfl⟩ rfl hl.1 rfl (Nat.le_of_ble_eq_true rfl) dX0_pileWeightless_17 ⟨Nat.zero_le _, Nat.zero_le _⟩) (fun H locs hI => ?_)
      clear hr_3
      refine lv_if_eq (tgt := 80) Γ.1.1 Γ.1.2.1 dX0_pileWeightless_20 (by decide) (fun c_5 => ?_) (fun c_5 => ?_)
      · replace h := ite_pos c_5 h; clear c_5
        obtain ⟨v1_6, e_v1_6, h⟩ := nm_some h
        refine lv_iinc (v := v1_6) (lv' := [(1, .int v1_6), (0, .ref (X.2.1 + 57))]) Γ.1.1 Γ.1.2.1 dX0_pileWeightless_80 hl (k := 1) rfl (by rw [e_v1_6]; rfl) (by decide) rfl (fun ls hl => ?_)
        clear e_v1_6
        refine lv_goto (tgt := 8) Γ.1.1 Γ.1.2.1 dX0_pileWeightless_83 (by decide) ?_
        exact ih σ v1_6 _ _ _ hI (lv_sub hl [1, 0] rfl) h
      · replace h := ite_neg c_5 h; clear c_5
        refine lv_aload_n Γ.1.1 Γ.1.2.1 dX0_pileWeightless_23 rfl (lv_at hl 0 rfl) ?_
        refine get_X0_weights Γ hI gw_18 dX0_pileWeightless_24 ?_
        refine lv_iload_n Γ.1.1 Γ.1.2.1 dX0_pileWeightless_27 rfl (lv_at hl 1 rfl) ?_
        obtain ⟨hb_7, h⟩ := bnd_some h
        refine g_lald Γ hI sh_58 hb_7 dX0_pileWeightless_28 ?_
        refine lv_lconst (v := (0 : Int64)) Γ.1.1 Γ.1.2.1 dX0_pileWeightless_29 (by decide) ?_
        refine W.lcmp Γ.1.1 Γ.1.2.1 dX0_pileWeightless_30 ?_
        refine lv_if_ne (tgt := 80) Γ.1.1 Γ.1.2.1 dX0_pileWeightless_31 (by decide) (fun c_8 => ?_) (fun c_8 => ?_)
        · replace h := ite_neg c_8 h; clear c_8
          obtain ⟨v1_9, e_v1_9, h⟩ := nm_some h
          refine lv_iinc (v := v1_9) (lv' := [(1, .int v1_9), (0, .ref (X.2.1 + 57))]) Γ.1.1 Γ.1.2.1 dX0_pileWeightless_80 hl (k := 1) rfl (by rw [e_v1_9]; rfl) (by decide) rfl (fun ls hl => ?_)
          clear e_v1_9
          refine lv_goto (tgt := 8) Γ.1.1 Γ.1.2.1 dX0_pileWeightless_83 (by decide) ?_
          exact ih σ v1_9 _ _ _ hI (lv_sub hl [1, 0] rfl) h
        · replace h := ite_pos c_8 h; clear c_8
          refine lv_aload_n Γ.1.1 Γ.1.2.1 dX0_pileWeightless_34 rfl (lv_at hl 0 rfl) ?_
          refine get_X0_piled Γ hI gw_21 dX0_pileWeightless_35 ?_
          refine lv_aload_n Γ.1.1 Γ.1.2.1 dX0_pileWeightless_38 rfl (lv_at hl 0 rfl) ?_
          refine get_X0_pile Γ hI gw_39 dX0_pileWeightless_39 ?_
          refine g_alen Γ hI sh_59 (by decide) (v := (12 : Int32)) (by decide) dX0_pileWeightless_42 ?_
          refine lv_icmp_ge (tgt := 80) Γ.1.1 Γ.1.2.1 dX0_pileWeightless_43 (by decide) (fun c_10 => ?_) (fun c_10 => ?_)
          · replace h := ite_pos c_10 h; clear c_10
            obtain ⟨v1_11, e_v1_11, h⟩ := nm_some h
            refine lv_iinc (v := v1_11) (lv' := [(1, .int v1_11), (0, .ref (X.2.1 + 57))]) Γ.1.1 Γ.1.2.1 dX0_pileWeightless_80 hl (k := 1) rfl (by rw [e_v1_11]; rfl) (by decide) rfl (fun ls hl => ?_)
            clear e_v1_11
            refine lv_goto (tgt := 8) Γ.1.1 Γ.1.2.1 dX0_pileWeightless_83 (by decide) ?_
            exact ih σ v1_11 _ _ _ hI (lv_sub hl [1, 0] rfl) h
          · replace h := ite_neg c_10 h; clear c_10
            refine lv_aload_n Γ.1.1 Γ.1.2.1 dX0_pileWeightless_46 rfl (lv_at hl 0 rfl) ?_
            refine lv_dup Γ.1.1 Γ.1.2.1 dX0_pileWeightless_47 rfl ?_
            refine get_X0_left Γ hI gw_20 dX0_pileWeightless_48 ?_
            refine lv_iconst (v := (1 : Int32)) Γ.1.1 Γ.1.2.1 dX0_pileWeightless_51 (by decide) ?_
            refine lv_iload_n Γ.1.1 Γ.1.2.1 dX0_pileWeightless_52 rfl (lv_at hl 1 rfl) ?_
            refine lv_ishl Γ.1.1 Γ.1.2.1 dX0_pileWeightless_53 ?_
            refine lv_iconst (v := (-1 : Int32)) Γ.1.1 Γ.1.2.1 dX0_pileWeightless_54 (by decide) ?_
            refine lv_ixor Γ.1.1 Γ.1.2.1 dX0_pileWeightless_55 ?_
            refine lv_iand Γ.1.1 Γ.1.2.1 dX0_pileWeightless_56 ?_
            refine put_X0_left Γ hI gw_20 dX0_pileWeightless_57 (fun H locs hI => ?_)
            obtain ⟨σ_12, e_m_12, h⟩ := nm_some h
            rw [← e_m_12] at hI; clear e_m_12
            refine lv_aload_n Γ.1.1 Γ.1.2.1 dX0_pileWeightless_60 rfl (lv_at hl 0 rfl) ?_
            refine get_X0_pile Γ hI gw_39 dX0_pileWeightless_61 ?_
            refine lv_aload_n Γ.1.1 Γ.1.2.1 dX0_pileWeightless_64 rfl (lv_at hl 0 rfl) ?_
            refine get_X0_piled Γ hI gw_21 dX0_pileWeightless_65 ?_
            refine lv_iload_n Γ.1.1 Γ.1.2.1 dX0_pileWeightless_68 rfl (lv_at hl 1 rfl) ?_
            obtain ⟨hb_13, h⟩ := bnd_some h
            refine g_iast Γ hI sh_59 hb_13 dX0_pileWeightless_69 (fun H locs hI => ?_)
            obtain ⟨σ_14, e_m_14, h⟩ := nm_some h
            rw [← e_m_14] at hI; clear e_m_14
            refine lv_aload_n Γ.1.1 Γ.1.2.1 dX0_pileWeightless_70 rfl (lv_at hl 0 rfl) ?_
            refine lv_dup Γ.1.1 Γ.1.2.1 dX0_pileWeightless_71 rfl ?_
            refine get_X0_piled Γ hI gw_21 dX0_pileWeightless_72 ?_
            refine lv_iconst (v := (1 : Int32)) Γ.1.1 Γ.1.2.1 dX0_pileWeightless_75 (by decide) ?_
            refine lv_iadd Γ.1.1 Γ.1.2.1 dX0_pileWeightless_76 ?_
            refine put_X0_piled Γ hI gw_21 dX0_pileWeightless_77 (fun H locs hI => ?_)
            obtain ⟨σ_15, e_m_15, h⟩ := nm_some h
            rw [← e_m_15] at hI; clear e_m_15
            obtain ⟨v1_16, e_v1_16, h⟩ := nm_some h
            refine lv_iinc (v := v1_16) (lv' := [(1, .int v1_16), (0, .ref (X.2.1 + 57))]) Γ.1.1 Γ.1.2.1 dX0_pileWeightless_80 hl (k := 1) rfl (by rw [e_v1_16]; rfl) (by decide) rfl (fun ls hl => ?_)
            clear e_v1_16
            refine lv_goto (tgt := 8) Γ.1.1 Γ.1.2.1 dX0_pileWeightless_83 (by decide) ?_
            exact ih σ_15 v1_16 _ _ _ hI (lv_sub hl [1, 0] rfl) h
set_option maxRecDepth 20000 in
set_option maxHeartbeats 4000000 in
theorem S_X0_pileWeightless (l : Launch) (X : GX) (σ : GM) (σr : GM) (h : f_X0_pileWeightless σ = some σr) : gMet l yX0_pileWeightless cX0_pileWeightless 2 none ({ frames := 1, cells := 0, slots := 0, locals := 21 } : Room) X σ [.ref (X.2.1 + 57)] (gQv X σr) := by
  unfold f_X0_pileWeightless at h
  refine gMet_of (lv := [(0, .ref (X.2.1 + 57))]) (by decide) rfl (Nat.le_of_ble_eq_true rfl) rfl (fun p e s m below meth c H ls Γ hI hl => ?_)
  refine lv_aload_n Γ.1.1 Γ.1.2.1 dX0_pileWeightless_0 rfl (lv_at hl 0 rfl) ?_
  refine get_X0_weights Γ hI gw_18 dX0_pileWeightless_1 ?_
  refine g_alen Γ hI sh_58 (by decide) (v := (12 : Int32)) (by decide) dX0_pileWeightless_4 ?_
  refine lv_iconst (v := (1 : Int32)) Γ.1.1 Γ.1.2.1 dX0_pileWeightless_5 (by decide) ?_
  refine lv_isub Γ.1.1 Γ.1.2.1 dX0_pileWeightless_6 ?_
  refine lv_topi (fun v1_1 e_v1_1 => ?_)
  replace h := nm_at e_v1_1 h; clear e_v1_1
  refine lv_istore_n (lv' := [(1, .int v1_1), (0, .ref (X.2.1 + 57))]) Γ.1.1 Γ.1.2.1 dX0_pileWeightless_7 rfl hl (by decide) rfl (fun ls hl => ?_)
  exact s_X0_pileWeightless_L8 σr Γ _ σ v1_1 _ _ _ hI (lv_sub hl [1, 0] rfl) h
set_option maxRecDepth 20000 in
set_option maxHeartbeats 4000000 in
theorem S_X8_isFree (l : Launch) (X : GX) (σ : GM) (v1 : Int32) (x : Int32) (h : f_X8_isFree σ v1 = some x) : gMet l yX8_isFree cX8_isFree 2 (some .boolean) ({ frames := 0, cells := 0, slots := 0, locals := 0 } : Room) X σ [.ref (X.2.1 + 49), .int v1] (gQi X σ x) := by
  unfold f_X8_isFree at h
  refine gMet_of (lv := [(0, .ref (X.2.1 + 49)), (1, .int v1)]) (by decide) rfl (Nat.le_of_ble_eq_true rfl) rfl (fun p e s m below meth c H ls Γ hI hl => ?_)
  refine lv_iload_n Γ.1.1 Γ.1.2.1 dX8_isFree_0 rfl (lv_at hl 1 rfl) ?_
  refine lv_if_lt (tgt := 26) Γ.1.1 Γ.1.2.1 dX8_isFree_1 (by decide) (fun c_1 => ?_) (fun c_1 => ?_)
  · replace h := ite_pos c_1 h; clear c_1
    refine lv_iconst (v := (0 : Int32)) Γ.1.1 Γ.1.2.1 dX8_isFree_26 (by decide) ?_
    exact g_zret Γ hI dX8_isFree_27 rfl (Option.some.inj h)
  · replace h := ite_neg c_1 h; clear c_1
    refine lv_iload_n Γ.1.1 Γ.1.2.1 dX8_isFree_4 rfl (lv_at hl 1 rfl) ?_
    refine lv_aload_n Γ.1.1 Γ.1.2.1 dX8_isFree_5 rfl (lv_at hl 0 rfl) ?_
    refine get_X8_free Γ hI gw_40 dX8_isFree_6 ?_
    refine g_alen Γ hI sh_50 (by decide) (v := (4096 : Int32)) (by decide) dX8_isFree_9 ?_
    refine lv_icmp_ge (tgt := 26) Γ.1.1 Γ.1.2.1 dX8_isFree_10 (by decide) (fun c_2 => ?_) (fun c_2 => ?_)
    · replace h := ite_pos c_2 h; clear c_2
      refine lv_iconst (v := (0 : Int32)) Γ.1.1 Γ.1.2.1 dX8_isFree_26 (by decide) ?_
      exact g_zret Γ hI dX8_isFree_27 rfl (Option.some.inj h)
    · replace h := ite_neg c_2 h; clear c_2
      refine lv_aload_n Γ.1.1 Γ.1.2.1 dX8_isFree_13 rfl (lv_at hl 0 rfl) ?_
      refine get_X8_free Γ hI gw_40 dX8_isFree_14 ?_
      refine lv_iload_n Γ.1.1 Γ.1.2.1 dX8_isFree_17 rfl (lv_at hl 1 rfl) ?_
      obtain ⟨hb_3, h⟩ := bnd_some h
      refine g_zald Γ hI sh_50 hb_3 dX8_isFree_18 ?_
      refine lv_if_eq (tgt := 26) Γ.1.1 Γ.1.2.1 dX8_isFree_19 (by decide) (fun c_4 => ?_) (fun c_4 => ?_)
      · replace h := ite_pos c_4 h; clear c_4
        refine lv_iconst (v := (0 : Int32)) Γ.1.1 Γ.1.2.1 dX8_isFree_26 (by decide) ?_
        exact g_zret Γ hI dX8_isFree_27 rfl (Option.some.inj h)
      · replace h := ite_neg c_4 h; clear c_4
        refine lv_iconst (v := (1 : Int32)) Γ.1.1 Γ.1.2.1 dX8_isFree_22 (by decide) ?_
        refine lv_goto (tgt := 27) Γ.1.1 Γ.1.2.1 dX8_isFree_23 (by decide) ?_
        exact g_zret Γ hI dX8_isFree_27 rfl (Option.some.inj h)
set_option maxRecDepth 20000 in
set_option maxHeartbeats 4000000 in
theorem s_X0_giveBack_L62 {p : Program} {l : Launch} {e : Env} {s : State} {m : MethodId} {args : Array Value} {below : List Frame} {meth : Method} {c : Code} {X : GX} (σr : GM) (Γ : gC X p m meth c cX0_giveBack 5 s args RX0 none) (v1 : Int32) :
    ∀ (k : Nat) (σ : GM) (v3 : Int32) (H : Heap) (locs : List Loc) (ls : Array Slot), gI X σ s H locs → lv_has ls 5 [(0, .ref (X.2.1 + 57)), (1, .int v1), (2, .ref (X.2.1 + 49)), (3, .int v3)] → f_X0_giveBack_L62 v1 k σ v3 = some σr →
    W p l e ({ frames := 1, cells := 0, slots := 0, locals := 40 } : Room) s m args below meth c H locs 0 0 (MQ below (gQv X σr) args s 0 0 (gA X)) (F0 m 62 ls []) := by
  intro k
  induction k with
  | zero =>
    intro σ v3 H locs ls hI hl h
    exact absurd h (by simp [f_X0_giveBack_L62])
  | succ k ih =>
    intro σ v3 H locs ls hI hl h
    unfold f_X0_giveBack_L62 at h
    refine lv_iload_n Γ.1.1 Γ.1.2.1 dX0_giveBack_62 rfl (lv_at hl 3 rfl) ?_
    refine lv_if_lt (tgt := 108) Γ.1.1 Γ.1.2.1 dX0_giveBack_63 (by decide) (fun c_4 => ?_) (fun c_4 => ?_)
    · replace h := ite_pos c_4 h; clear c_4
      exact g_vret Γ hI dX0_giveBack_108 (Option.some.inj h)
    · replace h := ite_neg c_4 h; clear c_4
      refine lv_aload_n Γ.1.1 Γ.1.2.1 dX0_giveBack_66 rfl (lv_at hl 0 rfl) ?_
      refine get_X0_cut Γ hI gw_41 dX0_giveBack_67 ?_
      refine lv_iconst (v := (1 : Int32)) Γ.1.1 Γ.1.2.1 dX0_giveBack_70 (by decide) ?_
      refine lv_aload_n Γ.1.1 Γ.1.2.1 dX0_giveBack_71 rfl (lv_at hl 0 rfl) ?_
      refine get_X0_pile Γ hI gw_39 dX0_giveBack_72 ?_
      refine lv_iload_n Γ.1.1 Γ.1.2.1 dX0_giveBack_75 rfl (lv_at hl 3 rfl) ?_
      obtain ⟨hb_5, h⟩ := bnd_some h
      refine g_iald Γ hI sh_59 hb_5 dX0_giveBack_76 ?_
      refine lv_ishl Γ.1.1 Γ.1.2.1 dX0_giveBack_77 ?_
      refine lv_iconst (v := (-1 : Int32)) Γ.1.1 Γ.1.2.1 dX0_giveBack_78 (by decide) ?_
      refine lv_ixor Γ.1.1 Γ.1.2.1 dX0_giveBack_79 ?_
      refine lv_iand Γ.1.1 Γ.1.2.1 dX0_giveBack_80 ?_
      refine lv_topi (fun v4_6 e_v4_6 => ?_)
      replace h := nm_at e_v4_6 h; clear e_v4_6
      refine lv_istore (lv' := [(4, .int v4_6), (0, .ref (X.2.1 + 57)), (1, .int v1), (2, .ref (X.2.1 + 49)), (3, .int v3)]) Γ.1.1 Γ.1.2.1 dX0_giveBack_81 hl (by decide) rfl (fun ls hl => ?_)
      refine lv_aload_n Γ.1.1 Γ.1.2.1 dX0_giveBack_83 rfl (lv_at hl 3 rfl) ?_
      refine lv_iload_n Γ.1.1 Γ.1.2.1 dX0_giveBack_84 rfl (lv_at hl 2 rfl) ?_
      refine lv_iload Γ.1.1 Γ.1.2.1 dX0_giveBack_85 (lv_at hl 0 rfl) ?_
      refine lv_iconst (v := (-1 : Int32)) Γ.1.1 Γ.1.2.1 dX0_giveBack_87 (by decide) ?_
      refine lv_ixor Γ.1.1 Γ.1.2.1 dX0_giveBack_88 ?_
      refine lv_iand Γ.1.1 Γ.1.2.1 dX0_giveBack_89 ?_
      obtain ⟨r_7, hr_7, h⟩ := ob_some h
      refine g_ci Γ hI (g_runV (As := [.int (v1 &&& (v4_6 ^^^ (-1 : Int32)))]) Γ hI (S_X8_isFree l X σ (v1 &&& (v4_6 ^^^ (-1 : Int32))) r_7 hr_7) mf_X8_isFree (recv_X8 Γ hI) gw_45 rfl rfl ⟨Nat.le_of_ble_eq_true rfl, Nat.le_of_ble_eq_true rfl⟩ rfl hl.1 rfl (Nat.le_of_ble_eq_true rfl) dX0_giveBack_90 ⟨Nat.zero_le _, Nat.zero_le _⟩) (fun H locs hI => ?_)
      clear hr_7
      refine lv_if_eq (tgt := 102) Γ.1.1 Γ.1.2.1 dX0_giveBack_93 (by decide) (fun c_9 => ?_) (fun c_9 => ?_)
      · replace h := ite_pos c_9 h; clear c_9
        obtain ⟨v3_10, e_v3_10, h⟩ := nm_some h
        refine lv_iinc (v := v3_10) (lv' := [(3, .int v3_10), (4, .int v4_6), (0, .ref (X.2.1 + 57)), (1, .int v1), (2, .ref (X.2.1 + 49))]) Γ.1.1 Γ.1.2.1 dX0_giveBack_102 hl (k := 4) rfl (by rw [e_v3_10]; rfl) (by decide) rfl (fun ls hl => ?_)
        clear e_v3_10
        refine lv_goto (tgt := 62) Γ.1.1 Γ.1.2.1 dX0_giveBack_105 (by decide) ?_
        exact ih σ v3_10 _ _ _ hI (lv_sub hl [2, 3, 4, 0] rfl) h
      · replace h := ite_neg c_9 h; clear c_9
        refine lv_aload_n Γ.1.1 Γ.1.2.1 dX0_giveBack_96 rfl (lv_at hl 1 rfl) ?_
        refine lv_iload Γ.1.1 Γ.1.2.1 dX0_giveBack_97 (lv_at hl 0 rfl) ?_
        refine put_X0_cut Γ hI gw_41 dX0_giveBack_99 (fun H locs hI => ?_)
        obtain ⟨σ_11, e_m_11, h⟩ := nm_some h
        rw [← e_m_11] at hI; clear e_m_11
        obtain ⟨v3_12, e_v3_12, h⟩ := nm_some h
        refine lv_iinc (v := v3_12) (lv' := [(3, .int v3_12), (4, .int v4_6), (0, .ref (X.2.1 + 57)), (1, .int v1), (2, .ref (X.2.1 + 49))]) Γ.1.1 Γ.1.2.1 dX0_giveBack_102 hl (k := 4) rfl (by rw [e_v3_12]; rfl) (by decide) rfl (fun ls hl => ?_)
        clear e_v3_12
        refine lv_goto (tgt := 62) Γ.1.1 Γ.1.2.1 dX0_giveBack_105 (by decide) ?_
        exact ih σ_11 v3_12 _ _ _ hI (lv_sub hl [2, 3, 4, 0] rfl) h
set_option maxRecDepth 20000 in
set_option maxHeartbeats 4000000 in
theorem s_X0_giveBack_L47 {p : Program} {l : Launch} {e : Env} {s : State} {m : MethodId} {args : Array Value} {below : List Frame} {meth : Method} {c : Code} {X : GX} (σr : GM) (Γ : gC X p m meth c cX0_giveBack 5 s args RX0 none) :
    ∀ (σ : GM) (v1 : Int32) (H : Heap) (locs : List Loc) (ls : Array Slot), gI X σ s H locs → lv_has ls 5 [(0, .ref (X.2.1 + 57)), (1, .int v1), (2, .ref (X.2.1 + 49))] → f_X0_giveBack_L47 σ v1 = some σr →
    W p l e ({ frames := 1, cells := 0, slots := 0, locals := 40 } : Room) s m args below meth c H locs 0 0 (MQ below (gQv X σr) args s 0 0 (gA X)) (F0 m 47 ls []) := by
  intro σ v1 H locs ls hI hl h
  unfold f_X0_giveBack_L47 at h
  refine lv_aload_n Γ.1.1 Γ.1.2.1 dX0_giveBack_47 rfl (lv_at hl 0 rfl) ?_
  refine get_X0_piled Γ hI gw_21 dX0_giveBack_48 ?_
  refine lv_aload_n Γ.1.1 Γ.1.2.1 dX0_giveBack_51 rfl (lv_at hl 0 rfl) ?_
  refine get_X0_pile Γ hI gw_39 dX0_giveBack_52 ?_
  refine g_alen Γ hI sh_59 (by decide) (v := (12 : Int32)) (by decide) dX0_giveBack_55 ?_
  refine va_mmin Γ.1.1 Γ.1.2.1 (Γ.1.2.2.1.trans hl.1.symm) Γ.1.2.2.2.1 (Γ.1.2.2.2.2 _ gw_42) (Γ.1.2.2.2.2 _ gw_43) (Γ.1.2.2.2.2 _ gw_35) (Γ.1.2.2.2.2 _ gw_44) (Nat.le_of_ble_eq_true rfl) (Nat.le_of_ble_eq_true rfl) (Nat.zero_le _) (Nat.zero_le _) dX0_giveBack_56 ?_
  refine lv_iconst (v := (1 : Int32)) Γ.1.1 Γ.1.2.1 dX0_giveBack_59 (by decide) ?_
  refine lv_isub Γ.1.1 Γ.1.2.1 dX0_giveBack_60 ?_
  refine lv_topi (fun v3_3 e_v3_3 => ?_)
  replace h := nm_at e_v3_3 h; clear e_v3_3
  refine lv_istore_n (lv' := [(3, .int v3_3), (0, .ref (X.2.1 + 57)), (1, .int v1), (2, .ref (X.2.1 + 49))]) Γ.1.1 Γ.1.2.1 dX0_giveBack_61 rfl hl (by decide) rfl (fun ls hl => ?_)
  exact s_X0_giveBack_L62 σr Γ v1 _ σ v3_3 _ _ _ hI (lv_sub hl [1, 2, 3, 0] rfl) h
set_option maxRecDepth 20000 in
set_option maxHeartbeats 4000000 in
theorem s_X0_giveBack_L7 {p : Program} {l : Launch} {e : Env} {s : State} {m : MethodId} {args : Array Value} {below : List Frame} {meth : Method} {c : Code} {X : GX} (σr : GM) (Γ : gC X p m meth c cX0_giveBack 5 s args RX0 none) (v1 : Int32) :
    ∀ (k : Nat) (σ : GM) (v3 : Int32) (H : Heap) (locs : List Loc) (ls : Array Slot), gI X σ s H locs → lv_has ls 5 [(0, .ref (X.2.1 + 57)), (1, .int v1), (2, .ref (X.2.1 + 49)), (3, .int v3)] → f_X0_giveBack_L7 v1 k σ v3 = some σr →
    W p l e ({ frames := 1, cells := 0, slots := 0, locals := 40 } : Room) s m args below meth c H locs 0 0 (MQ below (gQv X σr) args s 0 0 (gA X)) (F0 m 7 ls []) := by
  intro k
  induction k with
  | zero =>
    intro σ v3 H locs ls hI hl h
    exact absurd h (by simp [f_X0_giveBack_L7])
  | succ k ih =>
    intro σ v3 H locs ls hI hl h
    unfold f_X0_giveBack_L7 at h
    refine lv_iload_n Γ.1.1 Γ.1.2.1 dX0_giveBack_7 rfl (lv_at hl 3 rfl) ?_
    refine lv_aload_n Γ.1.1 Γ.1.2.1 dX0_giveBack_8 rfl (lv_at hl 0 rfl) ?_
    refine get_X0_piled Γ hI gw_21 dX0_giveBack_9 ?_
    refine lv_icmp_ge (tgt := 47) Γ.1.1 Γ.1.2.1 dX0_giveBack_12 (by decide) (fun c_2 => ?_) (fun c_2 => ?_)
    · replace h := ite_pos c_2 h; clear c_2
      exact s_X0_giveBack_L47 σr Γ σ v1 _ _ _ hI (lv_sub hl [0, 1, 2] rfl) h
    · replace h := ite_neg c_2 h; clear c_2
      refine lv_iload_n Γ.1.1 Γ.1.2.1 dX0_giveBack_15 rfl (lv_at hl 3 rfl) ?_
      refine lv_aload_n Γ.1.1 Γ.1.2.1 dX0_giveBack_16 rfl (lv_at hl 0 rfl) ?_
      refine get_X0_pile Γ hI gw_39 dX0_giveBack_17 ?_
      refine g_alen Γ hI sh_59 (by decide) (v := (12 : Int32)) (by decide) dX0_giveBack_20 ?_
      refine lv_icmp_ge (tgt := 47) Γ.1.1 Γ.1.2.1 dX0_giveBack_21 (by decide) (fun c_13 => ?_) (fun c_13 => ?_)
      · replace h := ite_pos c_13 h; clear c_13
        exact s_X0_giveBack_L47 σr Γ σ v1 _ _ _ hI (lv_sub hl [0, 1, 2] rfl) h
      · replace h := ite_neg c_13 h; clear c_13
        refine lv_aload_n Γ.1.1 Γ.1.2.1 dX0_giveBack_24 rfl (lv_at hl 0 rfl) ?_
        refine lv_dup Γ.1.1 Γ.1.2.1 dX0_giveBack_25 rfl ?_
        refine get_X0_cut Γ hI gw_41 dX0_giveBack_26 ?_
        refine lv_iconst (v := (1 : Int32)) Γ.1.1 Γ.1.2.1 dX0_giveBack_29 (by decide) ?_
        refine lv_aload_n Γ.1.1 Γ.1.2.1 dX0_giveBack_30 rfl (lv_at hl 0 rfl) ?_
        refine get_X0_pile Γ hI gw_39 dX0_giveBack_31 ?_
        refine lv_iload_n Γ.1.1 Γ.1.2.1 dX0_giveBack_34 rfl (lv_at hl 3 rfl) ?_
        obtain ⟨hb_14, h⟩ := bnd_some h
        refine g_iald Γ hI sh_59 hb_14 dX0_giveBack_35 ?_
        refine lv_ishl Γ.1.1 Γ.1.2.1 dX0_giveBack_36 ?_
        refine lv_ior Γ.1.1 Γ.1.2.1 dX0_giveBack_37 ?_
        refine put_X0_cut Γ hI gw_41 dX0_giveBack_38 (fun H locs hI => ?_)
        obtain ⟨σ_15, e_m_15, h⟩ := nm_some h
        rw [← e_m_15] at hI; clear e_m_15
        obtain ⟨v3_16, e_v3_16, h⟩ := nm_some h
        refine lv_iinc (v := v3_16) (lv' := [(3, .int v3_16), (0, .ref (X.2.1 + 57)), (1, .int v1), (2, .ref (X.2.1 + 49))]) Γ.1.1 Γ.1.2.1 dX0_giveBack_41 hl (k := 3) rfl (by rw [e_v3_16]; rfl) (by decide) rfl (fun ls hl => ?_)
        clear e_v3_16
        refine lv_goto (tgt := 7) Γ.1.1 Γ.1.2.1 dX0_giveBack_44 (by decide) ?_
        exact ih σ_15 v3_16 _ _ _ hI (lv_sub hl [1, 2, 3, 0] rfl) h
set_option maxRecDepth 20000 in
set_option maxHeartbeats 4000000 in
theorem S_X0_giveBack (l : Launch) (X : GX) (σ : GM) (v1 : Int32) (σr : GM) (h : f_X0_giveBack σ v1 = some σr) : gMet l yX0_giveBack cX0_giveBack 5 none ({ frames := 1, cells := 0, slots := 0, locals := 40 } : Room) X σ [.ref (X.2.1 + 57), .int v1, .ref (X.2.1 + 49)] (gQv X σr) := by
  unfold f_X0_giveBack at h
  refine gMet_of (lv := [(0, .ref (X.2.1 + 57)), (1, .int v1), (2, .ref (X.2.1 + 49))]) (by decide) rfl (Nat.le_of_ble_eq_true rfl) rfl (fun p e s m below meth c H ls Γ hI hl => ?_)
  refine lv_aload_n Γ.1.1 Γ.1.2.1 dX0_giveBack_0 rfl (lv_at hl 0 rfl) ?_
  refine lv_iconst (v := (0 : Int32)) Γ.1.1 Γ.1.2.1 dX0_giveBack_1 (by decide) ?_
  refine put_X0_cut Γ hI gw_41 dX0_giveBack_2 (fun H locs hI => ?_)
  obtain ⟨σ_1, e_m_1, h⟩ := nm_some h
  rw [← e_m_1] at hI; clear e_m_1
  refine lv_iconst (v := (0 : Int32)) Γ.1.1 Γ.1.2.1 dX0_giveBack_5 (by decide) ?_
  refine lv_istore_n (lv' := [(3, .int (0 : Int32)), (0, .ref (X.2.1 + 57)), (1, .int v1), (2, .ref (X.2.1 + 49))]) Γ.1.1 Γ.1.2.1 dX0_giveBack_6 rfl hl (by decide) rfl (fun ls hl => ?_)
  exact s_X0_giveBack_L7 σr Γ v1 _ σ_1 (0 : Int32) _ _ _ hI (lv_sub hl [1, 2, 3, 0] rfl) h
set_option maxRecDepth 20000 in
set_option maxHeartbeats 4000000 in
theorem s_X0_run_L69 {p : Program} {l : Launch} {e : Env} {s : State} {m : MethodId} {args : Array Value} {below : List Frame} {meth : Method} {c : Code} {X : GX} (σr : GM) (Γ : gC X p m meth c cX0_run 5 s args RX0 none) :
    ∀ (σ : GM) (H : Heap) (locs : List Loc) (ls : Array Slot), gI X σ s H locs → lv_has ls 5 [(0, .ref (X.2.1 + 57)), (1, .ref (X.2.1 + 8)), (2, .ref (X.2.1 + 49))] → f_X0_run_L69 σ = some σr →
    W p l e ({ frames := 5, cells := 0, slots := 0, locals := 117 } : Room) s m args below meth c H locs 0 0 (MQ below (gQv X σr) args s 0 0 (gA X)) (F0 m 69 ls []) := by
  intro σ H locs ls hI hl h
  unfold f_X0_run_L69 at h
  refine lv_aload_n Γ.1.1 Γ.1.2.1 dX0_run_69 rfl (lv_at hl 0 rfl) ?_
  refine lv_aload_n Γ.1.1 Γ.1.2.1 dX0_run_70 rfl (lv_at hl 1 rfl) ?_
  refine get_X3_there sh_8 Γ hI gw_19 dX0_run_71 ?_
  refine lv_aload_n Γ.1.1 Γ.1.2.1 dX0_run_74 rfl (lv_at hl 2 rfl) ?_
  obtain ⟨σ_5, hr_4, h⟩ := ob_some h
  refine g_cv Γ hI (g_runV (As := [.int (σ.1 8 3), .ref (X.2.1 + 49)]) Γ hI (S_X0_giveBack l X σ (σ.1 8 3) σ_5 hr_4) mf_X0_giveBack (recv_X0 Γ hI) gw_47 rfl rfl ⟨Nat.le_of_ble_eq_true rfl, Nat.le_of_ble_eq_true rfl⟩ rfl hl.1 rfl (Nat.le_of_ble_eq_true rfl) dX0_run_75 ⟨Nat.zero_le _, Nat.zero_le _⟩) (fun H locs hI => ?_)
  clear hr_4
  exact g_vret Γ hI dX0_run_78 (Option.some.inj h)
