/-! WALKS 6 (by gen.py) -/
set_option maxRecDepth 20000 in
set_option maxHeartbeats 4000000 in
theorem S_X12_thinRing (l : Launch) (X : GX) (σ : GM) (v1 : Int32) (x : Int32) (h : f_X12_thinRing σ v1 = some x) : gMet l yX12_thinRing cX12_thinRing 5 (some .int) ({ frames := 2, cells := 0, slots := 0, locals := 46 } : Room) X σ [.ref (X.2.1 + 60), .int v1] (gQi X σ x) := by
  unfold f_X12_thinRing at h
  refine gMet_of (lv := [(0, .ref (X.2.1 + 60)), (1, .int v1)]) (by decide) rfl (Nat.le_of_ble_eq_true rfl) rfl (fun p e s m below meth c H ls Γ hI hl => ?_)
  refine lv_iconst (v := (1 : Int32)) Γ.1.1 Γ.1.2.1 dX12_thinRing_0 (by decide) ?_
  refine lv_istore_n (lv' := [(2, .int (1 : Int32)), (0, .ref (X.2.1 + 60)), (1, .int v1)]) Γ.1.1 Γ.1.2.1 dX12_thinRing_1 rfl hl (by decide) rfl (fun ls hl => ?_)
  exact s_X12_thinRing_L2 σ x Γ v1 _ (1 : Int32) _ _ _ hI (lv_sub hl [1, 2, 0] rfl) h
set_option maxRecDepth 20000 in
set_option maxHeartbeats 4000000 in
theorem s_X12_sinks_L210 {p : Program} {l : Launch} {e : Env} {s : State} {m : MethodId} {args : Array Value} {below : List Frame} {meth : Method} {c : Code} {X : GX} (σr : GM) (Γ : gC X p m meth c cX12_sinks 11 s args RX12 none) :
    ∀ (σ : GM) (v1 : Int32) (v2 : Int32) (v4 : Int64) (v6 : Int64) (H : Heap) (locs : List Loc) (ls : Array Slot), gI X σ s H locs → lv_has ls 11 [(0, .ref (X.2.1 + 60)), (1, .int v1), (2, .int v2), (4, .long v4), (6, .long v6)] → f_X12_sinks_L210 σ v1 v2 v4 v6 = some σr →
    W p l e ({ frames := 202, cells := 0, slots := 0, locals := 4655 } : Room) s m args below meth c H locs 0 0 (MQ below (gQv X σr) args s 0 0 (gA X)) (F0 m 210 ls []) := by
  intro σ v1 v2 v4 v6 H locs ls hI hl h
  unfold f_X12_sinks_L210 at h
  refine lv_aload_n Γ.1.1 Γ.1.2.1 dX12_sinks_210 rfl (lv_at hl 0 rfl) ?_
  refine lv_lload Γ.1.1 Γ.1.2.1 dX12_sinks_211 (lv_at hl 3 rfl) ?_
  refine lv_lload Γ.1.1 Γ.1.2.1 dX12_sinks_213 (lv_at hl 4 rfl) ?_
  refine lv_iload_n Γ.1.1 Γ.1.2.1 dX12_sinks_215 rfl (lv_at hl 2 rfl) ?_
  refine lv_if_eq (tgt := 223) Γ.1.1 Γ.1.2.1 dX12_sinks_216 (by decide) (fun c_12 => ?_) (fun c_12 => ?_)
  · replace h := ite_pos c_12 h; clear c_12
    refine lv_aload_n Γ.1.1 Γ.1.2.1 dX12_sinks_223 rfl (lv_at hl 0 rfl) ?_
    refine get_X12_now Γ hI gw_244 dX12_sinks_224 ?_
    refine lv_iload_n Γ.1.1 Γ.1.2.1 dX12_sinks_227 rfl (lv_at hl 1 rfl) ?_
    obtain ⟨r_13, hr_13, h⟩ := ob_some h
    refine g_ci Γ hI (g_runS (As := [.ref (X.2.1 + 62), .int v1]) Γ hI (S_X12_lineMany l X σ 62 sh_62 v1 r_13 hr_13) mf_X12_lineMany gw_241 rfl rfl ⟨Nat.le_of_ble_eq_true rfl, Nat.le_of_ble_eq_true rfl⟩ rfl hl.1 rfl (Nat.le_of_ble_eq_true rfl) dX12_sinks_228 ⟨Nat.zero_le _, Nat.zero_le _⟩) (fun H locs hI => ?_)
    clear hr_13
    refine lv_iload_n Γ.1.1 Γ.1.2.1 dX12_sinks_231 rfl (lv_at hl 1 rfl) ?_
    obtain ⟨r_15, hr_15, h⟩ := ob_some h
    refine g_ci Γ hI (g_runS (As := [.int v1]) Γ hI (S_X12_bits l X σ v1 r_15 hr_15) mf_X12_bits gw_257 rfl rfl ⟨Nat.le_of_ble_eq_true rfl, Nat.le_of_ble_eq_true rfl⟩ rfl hl.1 rfl (Nat.le_of_ble_eq_true rfl) dX12_sinks_232 ⟨Nat.zero_le _, Nat.zero_le _⟩) (fun H locs hI => ?_)
    clear hr_15
    refine lv_isub Γ.1.1 Γ.1.2.1 dX12_sinks_235 ?_
    refine lv_aload_n Γ.1.1 Γ.1.2.1 dX12_sinks_236 rfl (lv_at hl 0 rfl) ?_
    refine lv_iload_n Γ.1.1 Γ.1.2.1 dX12_sinks_237 rfl (lv_at hl 1 rfl) ?_
    obtain ⟨r_17, hr_17, h⟩ := ob_some h
    refine g_ci Γ hI (g_runV (As := [.int v1]) Γ hI (S_X12_parts l X σ v1 r_17 hr_17) mf_X12_parts (recv_X12 Γ hI) gw_253 rfl rfl ⟨Nat.le_of_ble_eq_true rfl, Nat.le_of_ble_eq_true rfl⟩ rfl hl.1 rfl (Nat.le_of_ble_eq_true rfl) dX12_sinks_238 ⟨Nat.zero_le _, Nat.zero_le _⟩) (fun H locs hI => ?_)
    clear hr_17
    refine lv_iadd Γ.1.1 Γ.1.2.1 dX12_sinks_241 ?_
    obtain ⟨σ_20, hr_19, h⟩ := ob_some h
    refine g_cv Γ hI (g_runV (As := [.long v4, .long v6, .int ((r_13 - r_15) + r_17)]) Γ hI (S_X12_bounds l X σ v4 v6 ((r_13 - r_15) + r_17) σ_20 hr_19) mf_X12_bounds (recv_X12 Γ hI) gw_276 rfl rfl ⟨Nat.le_of_ble_eq_true rfl, Nat.le_of_ble_eq_true rfl⟩ rfl hl.1 rfl (Nat.le_of_ble_eq_true rfl) dX12_sinks_242 ⟨Nat.zero_le _, Nat.zero_le _⟩) (fun H locs hI => ?_)
    clear hr_19
    exact g_vret Γ hI dX12_sinks_245 (Option.some.inj h)
  · replace h := ite_neg c_12 h; clear c_12
    refine lv_iconst (v := (1 : Int32)) Γ.1.1 Γ.1.2.1 dX12_sinks_219 (by decide) ?_
    refine lv_goto (tgt := 242) Γ.1.1 Γ.1.2.1 dX12_sinks_220 (by decide) ?_
    obtain ⟨σ_22, hr_21, h⟩ := ob_some h
    refine g_cv Γ hI (g_runV (As := [.long v4, .long v6, .int (1 : Int32)]) Γ hI (S_X12_bounds l X σ v4 v6 (1 : Int32) σ_22 hr_21) mf_X12_bounds (recv_X12 Γ hI) gw_276 rfl rfl ⟨Nat.le_of_ble_eq_true rfl, Nat.le_of_ble_eq_true rfl⟩ rfl hl.1 rfl (Nat.le_of_ble_eq_true rfl) dX12_sinks_242 ⟨Nat.zero_le _, Nat.zero_le _⟩) (fun H locs hI => ?_)
    clear hr_21
    exact g_vret Γ hI dX12_sinks_245 (Option.some.inj h)
set_option maxRecDepth 20000 in
set_option maxHeartbeats 4000000 in
theorem s_X12_sinks_L158 {p : Program} {l : Launch} {e : Env} {s : State} {m : MethodId} {args : Array Value} {below : List Frame} {meth : Method} {c : Code} {X : GX} (σr : GM) (Γ : gC X p m meth c cX12_sinks 11 s args RX12 none) (v1 : Int32) (v2 : Int32) (v3 : Int32) (v4 : Int64) (v6 : Int64) :
    ∀ (k : Nat) (σ : GM) (v10 : Int32) (H : Heap) (locs : List Loc) (ls : Array Slot), gI X σ s H locs → lv_has ls 11 [(0, .ref (X.2.1 + 60)), (1, .int v1), (2, .int v2), (3, .int v3), (4, .long v4), (6, .long v6), (10, .int v10)] → f_X12_sinks_L158 v1 v2 v3 v4 v6 k σ v10 = some σr →
    W p l e ({ frames := 202, cells := 0, slots := 0, locals := 4655 } : Room) s m args below meth c H locs 0 0 (MQ below (gQv X σr) args s 0 0 (gA X)) (F0 m 158 ls []) := by
  intro k
  induction k with
  | zero =>
    intro σ v10 H locs ls hI hl h
    exact absurd h (by simp [f_X12_sinks_L158])
  | succ k ih =>
    intro σ v10 H locs ls hI hl h
    unfold f_X12_sinks_L158 at h
    refine lv_iload Γ.1.1 Γ.1.2.1 dX12_sinks_158 (lv_at hl 6 rfl) ?_
    refine lv_bipush (v := (12 : Int32)) Γ.1.1 Γ.1.2.1 dX12_sinks_160 (by decide) ?_
    refine lv_icmp_ge (tgt := 210) Γ.1.1 Γ.1.2.1 dX12_sinks_162 (by decide) (fun c_11 => ?_) (fun c_11 => ?_)
    · replace h := ite_pos c_11 h; clear c_11
      exact s_X12_sinks_L210 σr Γ σ v1 v2 v4 v6 _ _ _ hI (lv_sub hl [0, 1, 2, 4, 5] rfl) h
    · replace h := ite_neg c_11 h; clear c_11
      refine lv_iload_n Γ.1.1 Γ.1.2.1 dX12_sinks_165 rfl (lv_at hl 3 rfl) ?_
      refine lv_iload Γ.1.1 Γ.1.2.1 dX12_sinks_166 (lv_at hl 6 rfl) ?_
      obtain ⟨r_23, hr_23, h⟩ := ob_some h
      refine g_ci Γ hI (g_runS (As := [.int v3, .int v10]) Γ hI (S_X12_has l X σ v3 v10 r_23 hr_23) mf_X12_has gw_212 rfl rfl ⟨Nat.le_of_ble_eq_true rfl, Nat.le_of_ble_eq_true rfl⟩ rfl hl.1 rfl (Nat.le_of_ble_eq_true rfl) dX12_sinks_168 ⟨Nat.zero_le _, Nat.zero_le _⟩) (fun H locs hI => ?_)
      clear hr_23
      refine lv_if_eq (tgt := 204) Γ.1.1 Γ.1.2.1 dX12_sinks_171 (by decide) (fun c_25 => ?_) (fun c_25 => ?_)
      · replace h := ite_pos c_25 h; clear c_25
        obtain ⟨v10_26, e_v10_26, h⟩ := nm_some h
        refine lv_iinc (v := v10_26) (lv' := [(10, .int v10_26), (0, .ref (X.2.1 + 60)), (1, .int v1), (2, .int v2), (3, .int v3), (4, .long v4), (6, .long v6)]) Γ.1.1 Γ.1.2.1 dX12_sinks_204 hl (k := 6) rfl (by rw [e_v10_26]; rfl) (by decide) rfl (fun ls hl => ?_)
        clear e_v10_26
        refine lv_goto (tgt := 158) Γ.1.1 Γ.1.2.1 dX12_sinks_207 (by decide) ?_
        exact ih σ v10_26 _ _ _ hI (lv_sub hl [1, 2, 3, 4, 5, 6, 0] rfl) h
      · replace h := ite_neg c_25 h; clear c_25
        refine lv_aload_n Γ.1.1 Γ.1.2.1 dX12_sinks_174 rfl (lv_at hl 0 rfl) ?_
        refine lv_iload Γ.1.1 Γ.1.2.1 dX12_sinks_175 (lv_at hl 6 rfl) ?_
        refine lv_lload Γ.1.1 Γ.1.2.1 dX12_sinks_177 (lv_at hl 4 rfl) ?_
        refine lv_lload Γ.1.1 Γ.1.2.1 dX12_sinks_179 (lv_at hl 5 rfl) ?_
        refine lv_iload_n Γ.1.1 Γ.1.2.1 dX12_sinks_181 rfl (lv_at hl 2 rfl) ?_
        refine lv_if_eq (tgt := 189) Γ.1.1 Γ.1.2.1 dX12_sinks_182 (by decide) (fun c_27 => ?_) (fun c_27 => ?_)
        · replace h := ite_pos c_27 h; clear c_27
          refine lv_aload_n Γ.1.1 Γ.1.2.1 dX12_sinks_189 rfl (lv_at hl 0 rfl) ?_
          refine get_X12_now Γ hI gw_244 dX12_sinks_190 ?_
          refine lv_iload Γ.1.1 Γ.1.2.1 dX12_sinks_193 (lv_at hl 6 rfl) ?_
          refine lv_iload_n Γ.1.1 Γ.1.2.1 dX12_sinks_195 rfl (lv_at hl 1 rfl) ?_
          obtain ⟨r_28, hr_28, h⟩ := ob_some h
          refine g_ci Γ hI (g_runS (As := [.ref (X.2.1 + 62), .int v10, .int v1]) Γ hI (S_X12_ends l X σ 62 sh_62 v10 v1 r_28 hr_28) mf_X12_ends gw_233 rfl rfl ⟨Nat.le_of_ble_eq_true rfl, Nat.le_of_ble_eq_true rfl⟩ rfl hl.1 rfl (Nat.le_of_ble_eq_true rfl) dX12_sinks_196 ⟨Nat.zero_le _, Nat.zero_le _⟩) (fun H locs hI => ?_)
          clear hr_28
          refine lv_iconst (v := (1 : Int32)) Γ.1.1 Γ.1.2.1 dX12_sinks_199 (by decide) ?_
          refine lv_isub Γ.1.1 Γ.1.2.1 dX12_sinks_200 ?_
          obtain ⟨σ_31, hr_30, h⟩ := ob_some h
          refine g_cv Γ hI (g_runV (As := [.int v10, .long v4, .long v6, .int (r_28 - (1 : Int32))]) Γ hI (S_X12_takes l X σ v10 v4 v6 (r_28 - (1 : Int32)) σ_31 hr_30) mf_X12_takes (recv_X12 Γ hI) gw_277 rfl rfl ⟨Nat.le_of_ble_eq_true rfl, Nat.le_of_ble_eq_true rfl⟩ rfl hl.1 rfl (Nat.le_of_ble_eq_true rfl) dX12_sinks_201 ⟨Nat.zero_le _, Nat.zero_le _⟩) (fun H locs hI => ?_)
          clear hr_30
          obtain ⟨v10_32, e_v10_32, h⟩ := nm_some h
          refine lv_iinc (v := v10_32) (lv' := [(10, .int v10_32), (0, .ref (X.2.1 + 60)), (1, .int v1), (2, .int v2), (3, .int v3), (4, .long v4), (6, .long v6)]) Γ.1.1 Γ.1.2.1 dX12_sinks_204 hl (k := 6) rfl (by rw [e_v10_32]; rfl) (by decide) rfl (fun ls hl => ?_)
          clear e_v10_32
          refine lv_goto (tgt := 158) Γ.1.1 Γ.1.2.1 dX12_sinks_207 (by decide) ?_
          exact ih σ_31 v10_32 _ _ _ hI (lv_sub hl [1, 2, 3, 4, 5, 6, 0] rfl) h
        · replace h := ite_neg c_27 h; clear c_27
          refine lv_iconst (v := (1 : Int32)) Γ.1.1 Γ.1.2.1 dX12_sinks_185 (by decide) ?_
          refine lv_goto (tgt := 201) Γ.1.1 Γ.1.2.1 dX12_sinks_186 (by decide) ?_
          obtain ⟨σ_34, hr_33, h⟩ := ob_some h
          refine g_cv Γ hI (g_runV (As := [.int v10, .long v4, .long v6, .int (1 : Int32)]) Γ hI (S_X12_takes l X σ v10 v4 v6 (1 : Int32) σ_34 hr_33) mf_X12_takes (recv_X12 Γ hI) gw_277 rfl rfl ⟨Nat.le_of_ble_eq_true rfl, Nat.le_of_ble_eq_true rfl⟩ rfl hl.1 rfl (Nat.le_of_ble_eq_true rfl) dX12_sinks_201 ⟨Nat.zero_le _, Nat.zero_le _⟩) (fun H locs hI => ?_)
          clear hr_33
          obtain ⟨v10_35, e_v10_35, h⟩ := nm_some h
          refine lv_iinc (v := v10_35) (lv' := [(10, .int v10_35), (0, .ref (X.2.1 + 60)), (1, .int v1), (2, .int v2), (3, .int v3), (4, .long v4), (6, .long v6)]) Γ.1.1 Γ.1.2.1 dX12_sinks_204 hl (k := 6) rfl (by rw [e_v10_35]; rfl) (by decide) rfl (fun ls hl => ?_)
          clear e_v10_35
          refine lv_goto (tgt := 158) Γ.1.1 Γ.1.2.1 dX12_sinks_207 (by decide) ?_
          exact ih σ_34 v10_35 _ _ _ hI (lv_sub hl [1, 2, 3, 4, 5, 6, 0] rfl) h
set_option maxRecDepth 20000 in
set_option maxHeartbeats 4000000 in
theorem s_X12_sinks_L132 {p : Program} {l : Launch} {e : Env} {s : State} {m : MethodId} {args : Array Value} {below : List Frame} {meth : Method} {c : Code} {X : GX} (σr : GM) (Γ : gC X p m meth c cX12_sinks 11 s args RX12 none) :
    ∀ (σ : GM) (v1 : Int32) (v2 : Int32) (v3 : Int32) (v4 : Int64) (v6 : Int64) (H : Heap) (locs : List Loc) (ls : Array Slot), gI X σ s H locs → lv_has ls 11 [(0, .ref (X.2.1 + 60)), (1, .int v1), (2, .int v2), (3, .int v3), (4, .long v4), (6, .long v6)] → f_X12_sinks_L132 σ v1 v2 v3 v4 v6 = some σr →
    W p l e ({ frames := 202, cells := 0, slots := 0, locals := 4655 } : Room) s m args below meth c H locs 0 0 (MQ below (gQv X σr) args s 0 0 (gA X)) (F0 m 132 ls []) := by
  intro σ v1 v2 v3 v4 v6 H locs ls hI hl h
  unfold f_X12_sinks_L132 at h
  refine lv_lload Γ.1.1 Γ.1.2.1 dX12_sinks_132 (lv_at hl 4 rfl) ?_
  refine lv_lload Γ.1.1 Γ.1.2.1 dX12_sinks_134 (lv_at hl 5 rfl) ?_
  obtain ⟨r_5, hr_5, h⟩ := ob_some h
  refine g_cl Γ hI (g_runS (As := [.long v4, .long v6]) Γ hI (S_X12_divisor l X 200 σ v4 v6 r_5 hr_5) mf_X12_divisor gw_270 rfl rfl ⟨Nat.le_of_ble_eq_true rfl, Nat.le_of_ble_eq_true rfl⟩ rfl hl.1 rfl (Nat.le_of_ble_eq_true rfl) dX12_sinks_136 ⟨Nat.zero_le _, Nat.zero_le _⟩) (fun H locs hI => ?_)
  clear hr_5
  refine lv_lstore (lv' := [(8, .long r_5), (0, .ref (X.2.1 + 60)), (1, .int v1), (2, .int v2), (3, .int v3), (4, .long v4), (6, .long v6)]) Γ.1.1 Γ.1.2.1 dX12_sinks_139 hl (by decide) rfl (fun ls hl => ?_)
  refine lv_lload Γ.1.1 Γ.1.2.1 dX12_sinks_141 (lv_at hl 5 rfl) ?_
  refine lv_lload Γ.1.1 Γ.1.2.1 dX12_sinks_143 (lv_at hl 0 rfl) ?_
  obtain ⟨hz_7, h⟩ := nzl_some h
  refine lv_ldiv Γ.1.1 Γ.1.2.1 dX12_sinks_145 hz_7 ?_
  refine lv_topl (fun v4_8 e_v4_8 => ?_)
  replace h := nm_at e_v4_8 h; clear e_v4_8
  refine lv_lstore (lv' := [(4, .long v4_8), (8, .long r_5), (0, .ref (X.2.1 + 60)), (1, .int v1), (2, .int v2), (3, .int v3), (6, .long v6)]) Γ.1.1 Γ.1.2.1 dX12_sinks_146 hl (by decide) rfl (fun ls hl => ?_)
  refine lv_lload Γ.1.1 Γ.1.2.1 dX12_sinks_148 (lv_at hl 6 rfl) ?_
  refine lv_lload Γ.1.1 Γ.1.2.1 dX12_sinks_150 (lv_at hl 1 rfl) ?_
  obtain ⟨hz_9, h⟩ := nzl_some h
  refine lv_ldiv Γ.1.1 Γ.1.2.1 dX12_sinks_152 hz_9 ?_
  refine lv_topl (fun v6_10 e_v6_10 => ?_)
  replace h := nm_at e_v6_10 h; clear e_v6_10
  refine lv_lstore (lv' := [(6, .long v6_10), (4, .long v4_8), (8, .long r_5), (0, .ref (X.2.1 + 60)), (1, .int v1), (2, .int v2), (3, .int v3)]) Γ.1.1 Γ.1.2.1 dX12_sinks_153 hl (by decide) rfl (fun ls hl => ?_)
  refine lv_iconst (v := (0 : Int32)) Γ.1.1 Γ.1.2.1 dX12_sinks_155 (by decide) ?_
  refine lv_istore (lv' := [(10, .int (0 : Int32)), (6, .long v6_10), (4, .long v4_8), (8, .long r_5), (0, .ref (X.2.1 + 60)), (1, .int v1), (2, .int v2), (3, .int v3)]) Γ.1.1 Γ.1.2.1 dX12_sinks_156 hl (by decide) rfl (fun ls hl => ?_)
  exact s_X12_sinks_L158 σr Γ v1 v2 v3 v4_8 v6_10 _ σ (0 : Int32) _ _ _ hI (lv_sub hl [4, 5, 6, 7, 2, 1, 0] rfl) h
set_option maxRecDepth 20000 in
set_option maxHeartbeats 4000000 in
theorem s_X12_sinks_L104 {p : Program} {l : Launch} {e : Env} {s : State} {m : MethodId} {args : Array Value} {below : List Frame} {meth : Method} {c : Code} {X : GX} (σr : GM) (Γ : gC X p m meth c cX12_sinks 11 s args RX12 none) (v1 : Int32) (v2 : Int32) (v3 : Int32) (k25 : GM → Int64 → Int64 → Int32 → Option GM) (hk25 : ∀ (σ : GM) (v4 : Int64) (v6 : Int64) (v8 : Int32) (H : Heap) (locs : List Loc) (ls : Array Slot), gI X σ s H locs → lv_has ls 11 [(0, .ref (X.2.1 + 60)), (1, .int v1), (2, .int v2), (3, .int v3), (4, .long v4), (6, .long v6), (8, .int v8)] → k25 σ v4 v6 v8 = some σr → W p l e ({ frames := 202, cells := 0, slots := 0, locals := 4655 } : Room) s m args below meth c H locs 0 0 (MQ below (gQv X σr) args s 0 0 (gA X)) (F0 m 25 ls [])) :
    ∀ (σ : GM) (v8 : Int32) (v9 : Int32) (H : Heap) (locs : List Loc) (ls : Array Slot), gI X σ s H locs → lv_has ls 11 [(0, .ref (X.2.1 + 60)), (1, .int v1), (2, .int v2), (3, .int v3), (8, .int v8), (9, .int v9)] → f_X12_sinks_L104 k25 v1 v2 v3 σ v8 v9 = some σr →
    W p l e ({ frames := 202, cells := 0, slots := 0, locals := 4655 } : Room) s m args below meth c H locs 0 0 (MQ below (gQv X σr) args s 0 0 (gA X)) (F0 m 104 ls []) := by
  intro σ v8 v9 H locs ls hI hl h
  unfold f_X12_sinks_L104 at h
  refine lv_aload_n Γ.1.1 Γ.1.2.1 dX12_sinks_104 rfl (lv_at hl 0 rfl) ?_
  refine get_X12_above Γ hI gw_271 dX12_sinks_105 ?_
  refine lv_iload Γ.1.1 Γ.1.2.1 dX12_sinks_108 (lv_at hl 4 rfl) ?_
  obtain ⟨hb_43, h⟩ := bnd_some h
  refine g_lald Γ hI sh_72 hb_43 dX12_sinks_110 ?_
  refine lv_topl (fun v4_44 e_v4_44 => ?_)
  replace h := nm_at e_v4_44 h; clear e_v4_44
  refine lv_lstore (lv' := [(4, .long v4_44), (0, .ref (X.2.1 + 60)), (1, .int v1), (2, .int v2), (3, .int v3), (8, .int v8), (9, .int v9)]) Γ.1.1 Γ.1.2.1 dX12_sinks_111 hl (by decide) rfl (fun ls hl => ?_)
  refine lv_aload_n Γ.1.1 Γ.1.2.1 dX12_sinks_113 rfl (lv_at hl 1 rfl) ?_
  refine get_X12_below Γ hI gw_272 dX12_sinks_114 ?_
  refine lv_iload Γ.1.1 Γ.1.2.1 dX12_sinks_117 (lv_at hl 5 rfl) ?_
  obtain ⟨hb_45, h⟩ := bnd_some h
  refine g_lald Γ hI sh_73 hb_45 dX12_sinks_119 ?_
  refine lv_iload Γ.1.1 Γ.1.2.1 dX12_sinks_120 (lv_at hl 6 rfl) ?_
  refine lv_i2l (v := (v9.toInt64)) Γ.1.1 Γ.1.2.1 dX12_sinks_122 rfl ?_
  refine lv_lmul Γ.1.1 Γ.1.2.1 dX12_sinks_123 ?_
  refine lv_topl (fun v6_46 e_v6_46 => ?_)
  replace h := nm_at e_v6_46 h; clear e_v6_46
  refine lv_lstore (lv' := [(6, .long v6_46), (4, .long v4_44), (0, .ref (X.2.1 + 60)), (1, .int v1), (2, .int v2), (3, .int v3), (8, .int v8), (9, .int v9)]) Γ.1.1 Γ.1.2.1 dX12_sinks_124 hl (by decide) rfl (fun ls hl => ?_)
  obtain ⟨v8_47, e_v8_47, h⟩ := nm_some h
  refine lv_iinc (v := v8_47) (lv' := [(8, .int v8_47), (6, .long v6_46), (4, .long v4_44), (0, .ref (X.2.1 + 60)), (1, .int v1), (2, .int v2), (3, .int v3), (9, .int v9)]) Γ.1.1 Γ.1.2.1 dX12_sinks_126 hl (k := 6) rfl (by rw [e_v8_47]; rfl) (by decide) rfl (fun ls hl => ?_)
  clear e_v8_47
  refine lv_goto (tgt := 25) Γ.1.1 Γ.1.2.1 dX12_sinks_129 (by decide) ?_
  exact hk25 σ v4_44 v6_46 v8_47 _ _ _ hI (lv_sub hl [3, 4, 5, 6, 2, 1, 0] rfl) h
set_option maxRecDepth 20000 in
set_option maxHeartbeats 4000000 in
theorem s_X12_sinks_L64 {p : Program} {l : Launch} {e : Env} {s : State} {m : MethodId} {args : Array Value} {below : List Frame} {meth : Method} {c : Code} {X : GX} (σr : GM) (Γ : gC X p m meth c cX12_sinks 11 s args RX12 none) (v1 : Int32) (v2 : Int32) (v3 : Int32) (k25 : GM → Int64 → Int64 → Int32 → Option GM) (hk25 : ∀ (σ : GM) (v4 : Int64) (v6 : Int64) (v8 : Int32) (H : Heap) (locs : List Loc) (ls : Array Slot), gI X σ s H locs → lv_has ls 11 [(0, .ref (X.2.1 + 60)), (1, .int v1), (2, .int v2), (3, .int v3), (4, .long v4), (6, .long v6), (8, .int v8)] → k25 σ v4 v6 v8 = some σr → W p l e ({ frames := 202, cells := 0, slots := 0, locals := 4655 } : Room) s m args below meth c H locs 0 0 (MQ below (gQv X σr) args s 0 0 (gA X)) (F0 m 25 ls [])) :
    ∀ (σ : GM) (v4 : Int64) (v6 : Int64) (v8 : Int32) (s0 : Int32) (H : Heap) (locs : List Loc) (ls : Array Slot), gI X σ s H locs → lv_has ls 11 [(0, .ref (X.2.1 + 60)), (1, .int v1), (2, .int v2), (3, .int v3), (4, .long v4), (6, .long v6), (8, .int v8)] → f_X12_sinks_L64 k25 v1 v2 v3 σ v4 v6 v8 s0 = some σr →
    W p l e ({ frames := 202, cells := 0, slots := 0, locals := 4655 } : Room) s m args below meth c H locs 0 0 (MQ below (gQv X σr) args s 0 0 (gA X)) (F0 m 64 ls [.int s0]) := by
  intro σ v4 v6 v8 s0 H locs ls hI hl h
  unfold f_X12_sinks_L64 at h
  refine lv_istore (lv' := [(9, .int s0), (0, .ref (X.2.1 + 60)), (1, .int v1), (2, .int v2), (3, .int v3), (4, .long v4), (6, .long v6), (8, .int v8)]) Γ.1.1 Γ.1.2.1 dX12_sinks_64 hl (by decide) rfl (fun ls hl => ?_)
  refine lv_lload Γ.1.1 Γ.1.2.1 dX12_sinks_66 (lv_at hl 6 rfl) ?_
  refine lv_lconst (v := (0 : Int64)) Γ.1.1 Γ.1.2.1 dX12_sinks_68 (by decide) ?_
  refine W.lcmp Γ.1.1 Γ.1.2.1 dX12_sinks_69 ?_
  refine lv_if_eq (tgt := 104) Γ.1.1 Γ.1.2.1 dX12_sinks_70 (by decide) (fun c_42 => ?_) (fun c_42 => ?_)
  · replace h := ite_pos c_42 h; clear c_42
    exact s_X12_sinks_L104 σr Γ v1 v2 v3 _ hk25 σ v8 s0 _ _ _ hI (lv_sub hl [1, 2, 3, 4, 7, 0] rfl) h
  · replace h := ite_neg c_42 h; clear c_42
    refine lv_aload_n Γ.1.1 Γ.1.2.1 dX12_sinks_73 rfl (lv_at hl 1 rfl) ?_
    refine get_X12_above Γ hI gw_271 dX12_sinks_74 ?_
    refine lv_iload Γ.1.1 Γ.1.2.1 dX12_sinks_77 (lv_at hl 7 rfl) ?_
    obtain ⟨hb_48, h⟩ := bnd_some h
    refine g_lald Γ hI sh_72 hb_48 dX12_sinks_79 ?_
    refine lv_lload Γ.1.1 Γ.1.2.1 dX12_sinks_80 (lv_at hl 6 rfl) ?_
    refine lv_lmul Γ.1.1 Γ.1.2.1 dX12_sinks_82 ?_
    refine lv_lload Γ.1.1 Γ.1.2.1 dX12_sinks_83 (lv_at hl 5 rfl) ?_
    refine lv_aload_n Γ.1.1 Γ.1.2.1 dX12_sinks_85 rfl (lv_at hl 1 rfl) ?_
    refine get_X12_below Γ hI gw_272 dX12_sinks_86 ?_
    refine lv_iload Γ.1.1 Γ.1.2.1 dX12_sinks_89 (lv_at hl 7 rfl) ?_
    obtain ⟨hb_49, h⟩ := bnd_some h
    refine g_lald Γ hI sh_73 hb_49 dX12_sinks_91 ?_
    refine lv_lmul Γ.1.1 Γ.1.2.1 dX12_sinks_92 ?_
    refine lv_iload Γ.1.1 Γ.1.2.1 dX12_sinks_93 (lv_at hl 0 rfl) ?_
    refine lv_i2l (v := (s0.toInt64)) Γ.1.1 Γ.1.2.1 dX12_sinks_95 rfl ?_
    refine lv_lmul Γ.1.1 Γ.1.2.1 dX12_sinks_96 ?_
    refine W.lcmp Γ.1.1 Γ.1.2.1 dX12_sinks_97 ?_
    refine lv_if_lt (tgt := 104) Γ.1.1 Γ.1.2.1 dX12_sinks_98 (by decide) (fun c_50 => ?_) (fun c_50 => ?_)
    · replace h := ite_pos c_50 h; clear c_50
      exact s_X12_sinks_L104 σr Γ v1 v2 v3 _ hk25 σ v8 s0 _ _ _ hI (lv_sub hl [1, 2, 3, 4, 7, 0] rfl) h
    · replace h := ite_neg c_50 h; clear c_50
      refine lv_goto (tgt := 126) Γ.1.1 Γ.1.2.1 dX12_sinks_101 (by decide) ?_
      obtain ⟨v8_51, e_v8_51, h⟩ := nm_some h
      refine lv_iinc (v := v8_51) (lv' := [(8, .int v8_51), (9, .int s0), (0, .ref (X.2.1 + 60)), (1, .int v1), (2, .int v2), (3, .int v3), (4, .long v4), (6, .long v6)]) Γ.1.1 Γ.1.2.1 dX12_sinks_126 hl (k := 7) rfl (by rw [e_v8_51]; rfl) (by decide) rfl (fun ls hl => ?_)
      clear e_v8_51
      refine lv_goto (tgt := 25) Γ.1.1 Γ.1.2.1 dX12_sinks_129 (by decide) ?_
      exact hk25 σ v4 v6 v8_51 _ _ _ hI (lv_sub hl [2, 3, 4, 5, 6, 7, 0] rfl) h
set_option maxRecDepth 20000 in
set_option maxHeartbeats 4000000 in
theorem s_X12_sinks_L25 {p : Program} {l : Launch} {e : Env} {s : State} {m : MethodId} {args : Array Value} {below : List Frame} {meth : Method} {c : Code} {X : GX} (σr : GM) (Γ : gC X p m meth c cX12_sinks 11 s args RX12 none) (v1 : Int32) (v2 : Int32) (v3 : Int32) :
    ∀ (k : Nat) (σ : GM) (v4 : Int64) (v6 : Int64) (v8 : Int32) (H : Heap) (locs : List Loc) (ls : Array Slot), gI X σ s H locs → lv_has ls 11 [(0, .ref (X.2.1 + 60)), (1, .int v1), (2, .int v2), (3, .int v3), (4, .long v4), (6, .long v6), (8, .int v8)] → f_X12_sinks_L25 v1 v2 v3 k σ v4 v6 v8 = some σr →
    W p l e ({ frames := 202, cells := 0, slots := 0, locals := 4655 } : Room) s m args below meth c H locs 0 0 (MQ below (gQv X σr) args s 0 0 (gA X)) (F0 m 25 ls []) := by
  intro k
  induction k with
  | zero =>
    intro σ v4 v6 v8 H locs ls hI hl h
    exact absurd h (by simp [f_X12_sinks_L25])
  | succ k ih =>
    intro σ v4 v6 v8 H locs ls hI hl h
    unfold f_X12_sinks_L25 at h
    refine lv_iload Γ.1.1 Γ.1.2.1 dX12_sinks_25 (lv_at hl 6 rfl) ?_
    refine lv_bipush (v := (12 : Int32)) Γ.1.1 Γ.1.2.1 dX12_sinks_27 (by decide) ?_
    refine lv_icmp_ge (tgt := 132) Γ.1.1 Γ.1.2.1 dX12_sinks_29 (by decide) (fun c_4 => ?_) (fun c_4 => ?_)
    · replace h := ite_pos c_4 h; clear c_4
      exact s_X12_sinks_L132 σr Γ σ v1 v2 v3 v4 v6 _ _ _ hI (lv_sub hl [0, 1, 2, 3, 4, 5] rfl) h
    · replace h := ite_neg c_4 h; clear c_4
      refine lv_iload_n Γ.1.1 Γ.1.2.1 dX12_sinks_32 rfl (lv_at hl 3 rfl) ?_
      refine lv_iload Γ.1.1 Γ.1.2.1 dX12_sinks_33 (lv_at hl 6 rfl) ?_
      obtain ⟨r_36, hr_36, h⟩ := ob_some h
      refine g_ci Γ hI (g_runS (As := [.int v3, .int v8]) Γ hI (S_X12_has l X σ v3 v8 r_36 hr_36) mf_X12_has gw_212 rfl rfl ⟨Nat.le_of_ble_eq_true rfl, Nat.le_of_ble_eq_true rfl⟩ rfl hl.1 rfl (Nat.le_of_ble_eq_true rfl) dX12_sinks_35 ⟨Nat.zero_le _, Nat.zero_le _⟩) (fun H locs hI => ?_)
      clear hr_36
      refine lv_if_ne (tgt := 44) Γ.1.1 Γ.1.2.1 dX12_sinks_38 (by decide) (fun c_38 => ?_) (fun c_38 => ?_)
      · replace h := ite_neg c_38 h; clear c_38
        refine lv_iload_n Γ.1.1 Γ.1.2.1 dX12_sinks_44 rfl (lv_at hl 2 rfl) ?_
        refine lv_if_eq (tgt := 52) Γ.1.1 Γ.1.2.1 dX12_sinks_45 (by decide) (fun c_39 => ?_) (fun c_39 => ?_)
        · replace h := ite_pos c_39 h; clear c_39
          refine lv_aload_n Γ.1.1 Γ.1.2.1 dX12_sinks_52 rfl (lv_at hl 0 rfl) ?_
          refine get_X12_now Γ hI gw_244 dX12_sinks_53 ?_
          refine lv_iload Γ.1.1 Γ.1.2.1 dX12_sinks_56 (lv_at hl 6 rfl) ?_
          refine lv_iload_n Γ.1.1 Γ.1.2.1 dX12_sinks_58 rfl (lv_at hl 1 rfl) ?_
          obtain ⟨r_40, hr_40, h⟩ := ob_some h
          refine g_ci Γ hI (g_runS (As := [.ref (X.2.1 + 62), .int v8, .int v1]) Γ hI (S_X12_ends l X σ 62 sh_62 v8 v1 r_40 hr_40) mf_X12_ends gw_233 rfl rfl ⟨Nat.le_of_ble_eq_true rfl, Nat.le_of_ble_eq_true rfl⟩ rfl hl.1 rfl (Nat.le_of_ble_eq_true rfl) dX12_sinks_59 ⟨Nat.zero_le _, Nat.zero_le _⟩) (fun H locs hI => ?_)
          clear hr_40
          refine lv_iconst (v := (1 : Int32)) Γ.1.1 Γ.1.2.1 dX12_sinks_62 (by decide) ?_
          refine lv_isub Γ.1.1 Γ.1.2.1 dX12_sinks_63 ?_
          exact s_X12_sinks_L64 σr Γ v1 v2 v3 _ ih σ v4 v6 v8 (r_40 - (1 : Int32)) _ _ _ hI hl h
        · replace h := ite_neg c_39 h; clear c_39
          refine lv_iconst (v := (1 : Int32)) Γ.1.1 Γ.1.2.1 dX12_sinks_48 (by decide) ?_
          refine lv_goto (tgt := 64) Γ.1.1 Γ.1.2.1 dX12_sinks_49 (by decide) ?_
          exact s_X12_sinks_L64 σr Γ v1 v2 v3 _ ih σ v4 v6 v8 (1 : Int32) _ _ _ hI hl h
      · replace h := ite_pos c_38 h; clear c_38
        refine lv_goto (tgt := 126) Γ.1.1 Γ.1.2.1 dX12_sinks_41 (by decide) ?_
        obtain ⟨v8_52, e_v8_52, h⟩ := nm_some h
        refine lv_iinc (v := v8_52) (lv' := [(8, .int v8_52), (0, .ref (X.2.1 + 60)), (1, .int v1), (2, .int v2), (3, .int v3), (4, .long v4), (6, .long v6)]) Γ.1.1 Γ.1.2.1 dX12_sinks_126 hl (k := 6) rfl (by rw [e_v8_52]; rfl) (by decide) rfl (fun ls hl => ?_)
        clear e_v8_52
        refine lv_goto (tgt := 25) Γ.1.1 Γ.1.2.1 dX12_sinks_129 (by decide) ?_
        exact ih σ v4 v6 v8_52 _ _ _ hI (lv_sub hl [1, 2, 3, 4, 5, 6, 0] rfl) h
set_option maxRecDepth 20000 in
set_option maxHeartbeats 4000000 in
theorem s_X12_sinks_L15 {p : Program} {l : Launch} {e : Env} {s : State} {m : MethodId} {args : Array Value} {below : List Frame} {meth : Method} {c : Code} {X : GX} (σr : GM) (Γ : gC X p m meth c cX12_sinks 11 s args RX12 none) :
    ∀ (σ : GM) (v1 : Int32) (v2 : Int32) (s0 : Int32) (H : Heap) (locs : List Loc) (ls : Array Slot), gI X σ s H locs → lv_has ls 11 [(0, .ref (X.2.1 + 60)), (1, .int v1), (2, .int v2)] → f_X12_sinks_L15 σ v1 v2 s0 = some σr →
    W p l e ({ frames := 202, cells := 0, slots := 0, locals := 4655 } : Room) s m args below meth c H locs 0 0 (MQ below (gQv X σr) args s 0 0 (gA X)) (F0 m 15 ls [.int s0]) := by
  intro σ v1 v2 s0 H locs ls hI hl h
  unfold f_X12_sinks_L15 at h
  refine lv_istore_n (lv' := [(3, .int s0), (0, .ref (X.2.1 + 60)), (1, .int v1), (2, .int v2)]) Γ.1.1 Γ.1.2.1 dX12_sinks_15 rfl hl (by decide) rfl (fun ls hl => ?_)
  refine lv_lconst (v := (0 : Int64)) Γ.1.1 Γ.1.2.1 dX12_sinks_16 (by decide) ?_
  refine lv_lstore (lv' := [(4, .long (0 : Int64)), (3, .int s0), (0, .ref (X.2.1 + 60)), (1, .int v1), (2, .int v2)]) Γ.1.1 Γ.1.2.1 dX12_sinks_17 hl (by decide) rfl (fun ls hl => ?_)
  refine lv_lconst (v := (0 : Int64)) Γ.1.1 Γ.1.2.1 dX12_sinks_19 (by decide) ?_
  refine lv_lstore (lv' := [(6, .long (0 : Int64)), (4, .long (0 : Int64)), (3, .int s0), (0, .ref (X.2.1 + 60)), (1, .int v1), (2, .int v2)]) Γ.1.1 Γ.1.2.1 dX12_sinks_20 hl (by decide) rfl (fun ls hl => ?_)
  refine lv_iconst (v := (0 : Int32)) Γ.1.1 Γ.1.2.1 dX12_sinks_22 (by decide) ?_
  refine lv_istore (lv' := [(8, .int (0 : Int32)), (6, .long (0 : Int64)), (4, .long (0 : Int64)), (3, .int s0), (0, .ref (X.2.1 + 60)), (1, .int v1), (2, .int v2)]) Γ.1.1 Γ.1.2.1 dX12_sinks_23 hl (by decide) rfl (fun ls hl => ?_)
  exact s_X12_sinks_L25 σr Γ v1 v2 s0 _ σ (0 : Int64) (0 : Int64) (0 : Int32) _ _ _ hI (lv_sub hl [4, 5, 6, 3, 2, 1, 0] rfl) h
set_option maxRecDepth 20000 in
set_option maxHeartbeats 4000000 in
theorem S_X12_sinks (l : Launch) (X : GX) (σ : GM) (v1 : Int32) (σr : GM) (h : f_X12_sinks σ v1 = some σr) : gMet l yX12_sinks cX12_sinks 11 none ({ frames := 202, cells := 0, slots := 0, locals := 4655 } : Room) X σ [.ref (X.2.1 + 60), .int v1] (gQv X σr) := by
  unfold f_X12_sinks at h
  refine gMet_of (lv := [(0, .ref (X.2.1 + 60)), (1, .int v1)]) (by decide) rfl (Nat.le_of_ble_eq_true rfl) rfl (fun p e s m below meth c H ls Γ hI hl => ?_)
  refine lv_aload_n Γ.1.1 Γ.1.2.1 dX12_sinks_0 rfl (lv_at hl 0 rfl) ?_
  refine lv_iload_n Γ.1.1 Γ.1.2.1 dX12_sinks_1 rfl (lv_at hl 1 rfl) ?_
  obtain ⟨r_1, hr_1, h⟩ := ob_some h
  refine g_ci Γ hI (g_runV (As := [.int v1]) Γ hI (S_X12_thinRing l X σ v1 r_1 hr_1) mf_X12_thinRing (recv_X12 Γ hI) gw_275 rfl rfl ⟨Nat.le_of_ble_eq_true rfl, Nat.le_of_ble_eq_true rfl⟩ rfl hl.1 rfl (Nat.le_of_ble_eq_true rfl) dX12_sinks_2 ⟨Nat.zero_le _, Nat.zero_le _⟩) (fun H locs hI => ?_)
  clear hr_1
  refine lv_istore_n (lv' := [(2, .int r_1), (0, .ref (X.2.1 + 60)), (1, .int v1)]) Γ.1.1 Γ.1.2.1 dX12_sinks_5 rfl hl (by decide) rfl (fun ls hl => ?_)
  refine lv_iload_n Γ.1.1 Γ.1.2.1 dX12_sinks_6 rfl (lv_at hl 0 rfl) ?_
  refine lv_if_eq (tgt := 14) Γ.1.1 Γ.1.2.1 dX12_sinks_7 (by decide) (fun c_3 => ?_) (fun c_3 => ?_)
  · replace h := ite_pos c_3 h; clear c_3
    refine lv_iload_n Γ.1.1 Γ.1.2.1 dX12_sinks_14 rfl (lv_at hl 2 rfl) ?_
    exact s_X12_sinks_L15 σr Γ σ v1 r_1 v1 _ _ _ hI (lv_sub hl [1, 2, 0] rfl) h
  · replace h := ite_neg c_3 h; clear c_3
    refine lv_iload_n Γ.1.1 Γ.1.2.1 dX12_sinks_10 rfl (lv_at hl 0 rfl) ?_
    refine lv_goto (tgt := 15) Γ.1.1 Γ.1.2.1 dX12_sinks_11 (by decide) ?_
    exact s_X12_sinks_L15 σr Γ σ v1 r_1 r_1 _ _ _ hI (lv_sub hl [1, 2, 0] rfl) h
set_option maxRecDepth 20000 in
set_option maxHeartbeats 4000000 in
theorem s_X12_laysNear_L181 {p : Program} {l : Launch} {e : Env} {s : State} {m : MethodId} {args : Array Value} {below : List Frame} {meth : Method} {c : Code} {X : GX} (σr : GM) (x : Int32) (Γ : gC X p m meth c cX12_laysNear 4 s args RX12 (some .int)) :
    ∀ (k : Nat) (σ : GM) (v2 : Int32) (v3 : Int32) (H : Heap) (locs : List Loc) (ls : Array Slot), gI X σ s H locs → lv_has ls 4 [(0, .ref (X.2.1 + 60)), (2, .int v2), (3, .int v3)] → f_X12_laysNear_L181 k σ v2 v3 = some (σr, x) →
    W p l e ({ frames := 203, cells := 0, slots := 0, locals := 4685 } : Room) s m args below meth c H locs 0 0 (MQ below (gQi X σr x) args s 0 0 (gA X)) (F0 m 181 ls []) := by
  intro k
  induction k with
  | zero =>
    intro σ v2 v3 H locs ls hI hl h
    exact absurd h (by simp [f_X12_laysNear_L181])
  | succ k ih =>
    intro σ v2 v3 H locs ls hI hl h
    unfold f_X12_laysNear_L181 at h
    refine lv_iload_n Γ.1.1 Γ.1.2.1 dX12_laysNear_181 rfl (lv_at hl 2 rfl) ?_
    refine lv_if_lt (tgt := 227) Γ.1.1 Γ.1.2.1 dX12_laysNear_182 (by decide) (fun c_14 => ?_) (fun c_14 => ?_)
    · replace h := ite_pos c_14 h; clear c_14
      refine lv_iload_n Γ.1.1 Γ.1.2.1 dX12_laysNear_227 rfl (lv_at hl 1 rfl) ?_
      exact g_iret Γ hI dX12_laysNear_228 (Prod.mk.inj (Option.some.inj h)).1 (Prod.mk.inj (Option.some.inj h)).2
    · replace h := ite_neg c_14 h; clear c_14
      refine lv_aload_n Γ.1.1 Γ.1.2.1 dX12_laysNear_185 rfl (lv_at hl 0 rfl) ?_
      refine lv_iload_n Γ.1.1 Γ.1.2.1 dX12_laysNear_186 rfl (lv_at hl 1 rfl) ?_
      refine lv_iconst (v := (1 : Int32)) Γ.1.1 Γ.1.2.1 dX12_laysNear_187 (by decide) ?_
      refine lv_aload_n Γ.1.1 Γ.1.2.1 dX12_laysNear_188 rfl (lv_at hl 0 rfl) ?_
      refine get_X12_pile Γ hI gw_280 dX12_laysNear_189 ?_
      refine lv_iload_n Γ.1.1 Γ.1.2.1 dX12_laysNear_192 rfl (lv_at hl 2 rfl) ?_
      obtain ⟨hb_15, h⟩ := bnd_some h
      refine g_iald Γ hI sh_74 hb_15 dX12_laysNear_193 ?_
      refine lv_ishl Γ.1.1 Γ.1.2.1 dX12_laysNear_194 ?_
      refine lv_iconst (v := (-1 : Int32)) Γ.1.1 Γ.1.2.1 dX12_laysNear_195 (by decide) ?_
      refine lv_ixor Γ.1.1 Γ.1.2.1 dX12_laysNear_196 ?_
      refine lv_iand Γ.1.1 Γ.1.2.1 dX12_laysNear_197 ?_
      refine lv_aload_n Γ.1.1 Γ.1.2.1 dX12_laysNear_198 rfl (lv_at hl 0 rfl) ?_
      obtain ⟨r_16, hr_16, h⟩ := ob_some h
      refine g_ci Γ hI (g_runV (As := []) Γ hI (S_X12_there l X σ r_16 hr_16) mf_X12_there (recv_X12 Γ hI) gw_250 rfl rfl ⟨Nat.le_of_ble_eq_true rfl, Nat.le_of_ble_eq_true rfl⟩ rfl hl.1 rfl (Nat.le_of_ble_eq_true rfl) dX12_laysNear_199 ⟨Nat.zero_le _, Nat.zero_le _⟩) (fun H locs hI => ?_)
      clear hr_16
      obtain ⟨r_18, hr_18, h⟩ := ob_some h
      refine g_ci Γ hI (g_runV (As := [.int (v2 &&& (((1 : Int32) <<< ((σ.1 74 v3.toNatClampNeg) &&& 31)) ^^^ (-1 : Int32))), .int r_16]) Γ hI (S_X12_isCut l X σ (v2 &&& (((1 : Int32) <<< ((σ.1 74 v3.toNatClampNeg) &&& 31)) ^^^ (-1 : Int32))) r_16 r_18 hr_18) mf_X12_isCut (recv_X12 Γ hI) gw_260 rfl rfl ⟨Nat.le_of_ble_eq_true rfl, Nat.le_of_ble_eq_true rfl⟩ rfl hl.1 rfl (Nat.le_of_ble_eq_true rfl) dX12_laysNear_202 ⟨Nat.zero_le _, Nat.zero_le _⟩) (fun H locs hI => ?_)
      clear hr_18
      refine lv_if_eq (tgt := 221) Γ.1.1 Γ.1.2.1 dX12_laysNear_205 (by decide) (fun c_20 => ?_) (fun c_20 => ?_)
      · replace h := ite_pos c_20 h; clear c_20
        obtain ⟨v3_21, e_v3_21, h⟩ := nm_some h
        refine lv_iinc (v := v3_21) (lv' := [(3, .int v3_21), (0, .ref (X.2.1 + 60)), (2, .int v2)]) Γ.1.1 Γ.1.2.1 dX12_laysNear_221 hl (k := 2) rfl (by rw [e_v3_21]; rfl) (by decide) rfl (fun ls hl => ?_)
        clear e_v3_21
        refine lv_goto (tgt := 181) Γ.1.1 Γ.1.2.1 dX12_laysNear_224 (by decide) ?_
        exact ih σ v2 v3_21 _ _ _ hI (lv_sub hl [1, 2, 0] rfl) h
      · replace h := ite_neg c_20 h; clear c_20
        refine lv_iload_n Γ.1.1 Γ.1.2.1 dX12_laysNear_208 rfl (lv_at hl 1 rfl) ?_
        refine lv_iconst (v := (1 : Int32)) Γ.1.1 Γ.1.2.1 dX12_laysNear_209 (by decide) ?_
        refine lv_aload_n Γ.1.1 Γ.1.2.1 dX12_laysNear_210 rfl (lv_at hl 0 rfl) ?_
        refine get_X12_pile Γ hI gw_280 dX12_laysNear_211 ?_
        refine lv_iload_n Γ.1.1 Γ.1.2.1 dX12_laysNear_214 rfl (lv_at hl 2 rfl) ?_
        obtain ⟨hb_22, h⟩ := bnd_some h
        refine g_iald Γ hI sh_74 hb_22 dX12_laysNear_215 ?_
        refine lv_ishl Γ.1.1 Γ.1.2.1 dX12_laysNear_216 ?_
        refine lv_iconst (v := (-1 : Int32)) Γ.1.1 Γ.1.2.1 dX12_laysNear_217 (by decide) ?_
        refine lv_ixor Γ.1.1 Γ.1.2.1 dX12_laysNear_218 ?_
        refine lv_iand Γ.1.1 Γ.1.2.1 dX12_laysNear_219 ?_
        refine lv_topi (fun v2_23 e_v2_23 => ?_)
        replace h := nm_at e_v2_23 h; clear e_v2_23
        refine lv_istore_n (lv' := [(2, .int v2_23), (0, .ref (X.2.1 + 60)), (3, .int v3)]) Γ.1.1 Γ.1.2.1 dX12_laysNear_220 rfl hl (by decide) rfl (fun ls hl => ?_)
        obtain ⟨v3_24, e_v3_24, h⟩ := nm_some h
        refine lv_iinc (v := v3_24) (lv' := [(3, .int v3_24), (2, .int v2_23), (0, .ref (X.2.1 + 60))]) Γ.1.1 Γ.1.2.1 dX12_laysNear_221 hl (k := 2) rfl (by rw [e_v3_24]; rfl) (by decide) rfl (fun ls hl => ?_)
        clear e_v3_24
        refine lv_goto (tgt := 181) Γ.1.1 Γ.1.2.1 dX12_laysNear_224 (by decide) ?_
        exact ih σ v2_23 v3_24 _ _ _ hI (lv_sub hl [2, 1, 0] rfl) h
set_option maxRecDepth 20000 in
set_option maxHeartbeats 4000000 in
theorem s_X12_laysNear_L174 {p : Program} {l : Launch} {e : Env} {s : State} {m : MethodId} {args : Array Value} {below : List Frame} {meth : Method} {c : Code} {X : GX} (σr : GM) (x : Int32) (Γ : gC X p m meth c cX12_laysNear 4 s args RX12 (some .int)) :
    ∀ (σ : GM) (v2 : Int32) (H : Heap) (locs : List Loc) (ls : Array Slot), gI X σ s H locs → lv_has ls 4 [(0, .ref (X.2.1 + 60)), (2, .int v2)] → f_X12_laysNear_L174 σ v2 = some (σr, x) →
    W p l e ({ frames := 203, cells := 0, slots := 0, locals := 4685 } : Room) s m args below meth c H locs 0 0 (MQ below (gQi X σr x) args s 0 0 (gA X)) (F0 m 174 ls []) := by
  intro σ v2 H locs ls hI hl h
  unfold f_X12_laysNear_L174 at h
  refine lv_aload_n Γ.1.1 Γ.1.2.1 dX12_laysNear_174 rfl (lv_at hl 0 rfl) ?_
  refine get_X12_piled Γ hI gw_278 dX12_laysNear_175 ?_
  refine lv_iconst (v := (1 : Int32)) Γ.1.1 Γ.1.2.1 dX12_laysNear_178 (by decide) ?_
  refine lv_isub Γ.1.1 Γ.1.2.1 dX12_laysNear_179 ?_
  refine lv_topi (fun v3_13 e_v3_13 => ?_)
  replace h := nm_at e_v3_13 h; clear e_v3_13
  refine lv_istore_n (lv' := [(3, .int v3_13), (0, .ref (X.2.1 + 60)), (2, .int v2)]) Γ.1.1 Γ.1.2.1 dX12_laysNear_180 rfl hl (by decide) rfl (fun ls hl => ?_)
  exact s_X12_laysNear_L181 σr x Γ _ σ v2 v3_13 _ _ _ hI (lv_sub hl [1, 2, 0] rfl) h
set_option maxRecDepth 20000 in
set_option maxHeartbeats 4000000 in
theorem s_X12_laysNear_L149 {p : Program} {l : Launch} {e : Env} {s : State} {m : MethodId} {args : Array Value} {below : List Frame} {meth : Method} {c : Code} {X : GX} (σr : GM) (x : Int32) (Γ : gC X p m meth c cX12_laysNear 4 s args RX12 (some .int)) :
    ∀ (k : Nat) (σ : GM) (v2 : Int32) (v3 : Int32) (H : Heap) (locs : List Loc) (ls : Array Slot), gI X σ s H locs → lv_has ls 4 [(0, .ref (X.2.1 + 60)), (2, .int v2), (3, .int v3)] → f_X12_laysNear_L149 k σ v2 v3 = some (σr, x) →
    W p l e ({ frames := 203, cells := 0, slots := 0, locals := 4685 } : Room) s m args below meth c H locs 0 0 (MQ below (gQi X σr x) args s 0 0 (gA X)) (F0 m 149 ls []) := by
  intro k
  induction k with
  | zero =>
    intro σ v2 v3 H locs ls hI hl h
    exact absurd h (by simp [f_X12_laysNear_L149])
  | succ k ih =>
    intro σ v2 v3 H locs ls hI hl h
    unfold f_X12_laysNear_L149 at h
    refine lv_iload_n Γ.1.1 Γ.1.2.1 dX12_laysNear_149 rfl (lv_at hl 2 rfl) ?_
    refine lv_aload_n Γ.1.1 Γ.1.2.1 dX12_laysNear_150 rfl (lv_at hl 0 rfl) ?_
    refine get_X12_piled Γ hI gw_278 dX12_laysNear_151 ?_
    refine lv_icmp_ge (tgt := 174) Γ.1.1 Γ.1.2.1 dX12_laysNear_154 (by decide) (fun c_12 => ?_) (fun c_12 => ?_)
    · replace h := ite_pos c_12 h; clear c_12
      exact s_X12_laysNear_L174 σr x Γ σ v2 _ _ _ hI (lv_sub hl [0, 1] rfl) h
    · replace h := ite_neg c_12 h; clear c_12
      refine lv_iload_n Γ.1.1 Γ.1.2.1 dX12_laysNear_157 rfl (lv_at hl 1 rfl) ?_
      refine lv_iconst (v := (1 : Int32)) Γ.1.1 Γ.1.2.1 dX12_laysNear_158 (by decide) ?_
      refine lv_aload_n Γ.1.1 Γ.1.2.1 dX12_laysNear_159 rfl (lv_at hl 0 rfl) ?_
      refine get_X12_pile Γ hI gw_280 dX12_laysNear_160 ?_
      refine lv_iload_n Γ.1.1 Γ.1.2.1 dX12_laysNear_163 rfl (lv_at hl 2 rfl) ?_
      obtain ⟨hb_25, h⟩ := bnd_some h
      refine g_iald Γ hI sh_74 hb_25 dX12_laysNear_164 ?_
      refine lv_ishl Γ.1.1 Γ.1.2.1 dX12_laysNear_165 ?_
      refine lv_ior Γ.1.1 Γ.1.2.1 dX12_laysNear_166 ?_
      refine lv_topi (fun v2_26 e_v2_26 => ?_)
      replace h := nm_at e_v2_26 h; clear e_v2_26
      refine lv_istore_n (lv' := [(2, .int v2_26), (0, .ref (X.2.1 + 60)), (3, .int v3)]) Γ.1.1 Γ.1.2.1 dX12_laysNear_167 rfl hl (by decide) rfl (fun ls hl => ?_)
      obtain ⟨v3_27, e_v3_27, h⟩ := nm_some h
      refine lv_iinc (v := v3_27) (lv' := [(3, .int v3_27), (2, .int v2_26), (0, .ref (X.2.1 + 60))]) Γ.1.1 Γ.1.2.1 dX12_laysNear_168 hl (k := 2) rfl (by rw [e_v3_27]; rfl) (by decide) rfl (fun ls hl => ?_)
      clear e_v3_27
      refine lv_goto (tgt := 149) Γ.1.1 Γ.1.2.1 dX12_laysNear_171 (by decide) ?_
      exact ih σ v2_26 v3_27 _ _ _ hI (lv_sub hl [2, 1, 0] rfl) h
set_option maxRecDepth 20000 in
set_option maxHeartbeats 4000000 in
theorem s_X12_laysNear_L145 {p : Program} {l : Launch} {e : Env} {s : State} {m : MethodId} {args : Array Value} {below : List Frame} {meth : Method} {c : Code} {X : GX} (σr : GM) (x : Int32) (Γ : gC X p m meth c cX12_laysNear 4 s args RX12 (some .int)) :
    ∀ (σ : GM) (H : Heap) (locs : List Loc) (ls : Array Slot), gI X σ s H locs → lv_has ls 4 [(0, .ref (X.2.1 + 60))] → f_X12_laysNear_L145 σ = some (σr, x) →
    W p l e ({ frames := 203, cells := 0, slots := 0, locals := 4685 } : Room) s m args below meth c H locs 0 0 (MQ below (gQi X σr x) args s 0 0 (gA X)) (F0 m 145 ls []) := by
  intro σ H locs ls hI hl h
  unfold f_X12_laysNear_L145 at h
  refine lv_iconst (v := (0 : Int32)) Γ.1.1 Γ.1.2.1 dX12_laysNear_145 (by decide) ?_
  refine lv_istore_n (lv' := [(2, .int (0 : Int32)), (0, .ref (X.2.1 + 60))]) Γ.1.1 Γ.1.2.1 dX12_laysNear_146 rfl hl (by decide) rfl (fun ls hl => ?_)
  refine lv_iconst (v := (0 : Int32)) Γ.1.1 Γ.1.2.1 dX12_laysNear_147 (by decide) ?_
  refine lv_istore_n (lv' := [(3, .int (0 : Int32)), (2, .int (0 : Int32)), (0, .ref (X.2.1 + 60))]) Γ.1.1 Γ.1.2.1 dX12_laysNear_148 rfl hl (by decide) rfl (fun ls hl => ?_)
  exact s_X12_laysNear_L149 σr x Γ _ σ (0 : Int32) (0 : Int32) _ _ _ hI (lv_sub hl [2, 1, 0] rfl) h
set_option maxRecDepth 20000 in
set_option maxHeartbeats 4000000 in
theorem s_X12_laysNear_L136 {p : Program} {l : Launch} {e : Env} {s : State} {m : MethodId} {args : Array Value} {below : List Frame} {meth : Method} {c : Code} {X : GX} (σr : GM) (x : Int32) (Γ : gC X p m meth c cX12_laysNear 4 s args RX12 (some .int)) (k64 : GM → Int32 → Option (GM × Int32)) (hk64 : ∀ (σ : GM) (v1 : Int32) (H : Heap) (locs : List Loc) (ls : Array Slot), gI X σ s H locs → lv_has ls 4 [(0, .ref (X.2.1 + 60)), (1, .int v1)] → k64 σ v1 = some (σr, x) → W p l e ({ frames := 203, cells := 0, slots := 0, locals := 4685 } : Room) s m args below meth c H locs 0 0 (MQ below (gQi X σr x) args s 0 0 (gA X)) (F0 m 64 ls [])) :
    ∀ (σ : GM) (v1 : Int32) (H : Heap) (locs : List Loc) (ls : Array Slot), gI X σ s H locs → lv_has ls 4 [(0, .ref (X.2.1 + 60)), (1, .int v1)] → f_X12_laysNear_L136 k64 σ v1 = some (σr, x) →
    W p l e ({ frames := 203, cells := 0, slots := 0, locals := 4685 } : Room) s m args below meth c H locs 0 0 (MQ below (gQi X σr x) args s 0 0 (gA X)) (F0 m 136 ls []) := by
  intro σ v1 H locs ls hI hl h
  unfold f_X12_laysNear_L136 at h
  refine lv_aload_n Γ.1.1 Γ.1.2.1 dX12_laysNear_136 rfl (lv_at hl 0 rfl) ?_
  refine lv_iload_n Γ.1.1 Γ.1.2.1 dX12_laysNear_137 rfl (lv_at hl 1 rfl) ?_
  obtain ⟨r_31, hr_31, h⟩ := ob_some h
  refine g_ci Γ hI (g_runV (As := [.int v1]) Γ hI (S_X12_trimmed l X σ v1 r_31 hr_31) mf_X12_trimmed (recv_X12 Γ hI) gw_279 rfl rfl ⟨Nat.le_of_ble_eq_true rfl, Nat.le_of_ble_eq_true rfl⟩ rfl hl.1 rfl (Nat.le_of_ble_eq_true rfl) dX12_laysNear_138 ⟨Nat.zero_le _, Nat.zero_le _⟩) (fun H locs hI => ?_)
  clear hr_31
  refine lv_istore_n (lv' := [(1, .int r_31), (0, .ref (X.2.1 + 60))]) Γ.1.1 Γ.1.2.1 dX12_laysNear_141 rfl hl (by decide) rfl (fun ls hl => ?_)
  refine lv_goto (tgt := 64) Γ.1.1 Γ.1.2.1 dX12_laysNear_142 (by decide) ?_
  exact hk64 σ r_31 _ _ _ hI (lv_sub hl [1, 0] rfl) h
set_option maxRecDepth 20000 in
set_option maxHeartbeats 4000000 in
theorem s_X12_laysNear_L76 {p : Program} {l : Launch} {e : Env} {s : State} {m : MethodId} {args : Array Value} {below : List Frame} {meth : Method} {c : Code} {X : GX} (σr : GM) (x : Int32) (Γ : gC X p m meth c cX12_laysNear 4 s args RX12 (some .int)) (k64 : GM → Int32 → Option (GM × Int32)) (hk64 : ∀ (σ : GM) (v1 : Int32) (H : Heap) (locs : List Loc) (ls : Array Slot), gI X σ s H locs → lv_has ls 4 [(0, .ref (X.2.1 + 60)), (1, .int v1)] → k64 σ v1 = some (σr, x) → W p l e ({ frames := 203, cells := 0, slots := 0, locals := 4685 } : Room) s m args below meth c H locs 0 0 (MQ below (gQi X σr x) args s 0 0 (gA X)) (F0 m 64 ls [])) :
    ∀ (k : Nat) (σ : GM) (v1 : Int32) (v2 : Int32) (H : Heap) (locs : List Loc) (ls : Array Slot), gI X σ s H locs → lv_has ls 4 [(0, .ref (X.2.1 + 60)), (1, .int v1), (2, .int v2)] → f_X12_laysNear_L76 k64 k σ v1 v2 = some (σr, x) →
    W p l e ({ frames := 203, cells := 0, slots := 0, locals := 4685 } : Room) s m args below meth c H locs 0 0 (MQ below (gQi X σr x) args s 0 0 (gA X)) (F0 m 76 ls []) := by
  intro k
  induction k with
  | zero =>
    intro σ v1 v2 H locs ls hI hl h
    exact absurd h (by simp [f_X12_laysNear_L76])
  | succ k ih =>
    intro σ v1 v2 H locs ls hI hl h
    unfold f_X12_laysNear_L76 at h
    refine lv_iload_n Γ.1.1 Γ.1.2.1 dX12_laysNear_76 rfl (lv_at hl 2 rfl) ?_
    refine lv_if_lt (tgt := 136) Γ.1.1 Γ.1.2.1 dX12_laysNear_77 (by decide) (fun c_30 => ?_) (fun c_30 => ?_)
    · replace h := ite_pos c_30 h; clear c_30
      exact s_X12_laysNear_L136 σr x Γ _ hk64 σ v1 _ _ _ hI (lv_sub hl [0, 1] rfl) h
    · replace h := ite_neg c_30 h; clear c_30
      refine lv_iload_n Γ.1.1 Γ.1.2.1 dX12_laysNear_80 rfl (lv_at hl 1 rfl) ?_
      refine lv_iload_n Γ.1.1 Γ.1.2.1 dX12_laysNear_81 rfl (lv_at hl 2 rfl) ?_
      obtain ⟨r_33, hr_33, h⟩ := ob_some h
      refine g_ci Γ hI (g_runS (As := [.int v1, .int v2]) Γ hI (S_X12_has l X σ v1 v2 r_33 hr_33) mf_X12_has gw_212 rfl rfl ⟨Nat.le_of_ble_eq_true rfl, Nat.le_of_ble_eq_true rfl⟩ rfl hl.1 rfl (Nat.le_of_ble_eq_true rfl) dX12_laysNear_82 ⟨Nat.zero_le _, Nat.zero_le _⟩) (fun H locs hI => ?_)
      clear hr_33
      refine lv_if_eq (tgt := 130) Γ.1.1 Γ.1.2.1 dX12_laysNear_85 (by decide) (fun c_35 => ?_) (fun c_35 => ?_)
      · replace h := ite_pos c_35 h; clear c_35
        obtain ⟨v2_36, e_v2_36, h⟩ := nm_some h
        refine lv_iinc (v := v2_36) (lv' := [(2, .int v2_36), (0, .ref (X.2.1 + 60)), (1, .int v1)]) Γ.1.1 Γ.1.2.1 dX12_laysNear_130 hl (k := 2) rfl (by rw [e_v2_36]; rfl) (by decide) rfl (fun ls hl => ?_)
        clear e_v2_36
        refine lv_goto (tgt := 76) Γ.1.1 Γ.1.2.1 dX12_laysNear_133 (by decide) ?_
        exact ih σ v1 v2_36 _ _ _ hI (lv_sub hl [1, 2, 0] rfl) h
      · replace h := ite_neg c_35 h; clear c_35
        refine lv_aload_n Γ.1.1 Γ.1.2.1 dX12_laysNear_88 rfl (lv_at hl 0 rfl) ?_
        refine get_X12_above Γ hI gw_271 dX12_laysNear_89 ?_
        refine lv_iload_n Γ.1.1 Γ.1.2.1 dX12_laysNear_92 rfl (lv_at hl 2 rfl) ?_
        obtain ⟨hb_37, h⟩ := bnd_some h
        refine g_lald Γ hI sh_72 hb_37 dX12_laysNear_93 ?_
        refine lv_lconst (v := (0 : Int64)) Γ.1.1 Γ.1.2.1 dX12_laysNear_94 (by decide) ?_
        refine W.lcmp Γ.1.1 Γ.1.2.1 dX12_laysNear_95 ?_
        refine lv_if_eq (tgt := 102) Γ.1.1 Γ.1.2.1 dX12_laysNear_96 (by decide) (fun c_38 => ?_) (fun c_38 => ?_)
        · replace h := ite_pos c_38 h; clear c_38
          refine lv_aload_n Γ.1.1 Γ.1.2.1 dX12_laysNear_102 rfl (lv_at hl 0 rfl) ?_
          refine get_X12_pile Γ hI gw_280 dX12_laysNear_103 ?_
          refine lv_aload_n Γ.1.1 Γ.1.2.1 dX12_laysNear_106 rfl (lv_at hl 0 rfl) ?_
          refine get_X12_piled Γ hI gw_278 dX12_laysNear_107 ?_
          refine lv_iload_n Γ.1.1 Γ.1.2.1 dX12_laysNear_110 rfl (lv_at hl 2 rfl) ?_
          obtain ⟨hb_39, h⟩ := bnd_some h
          refine g_iast Γ hI sh_74 hb_39 dX12_laysNear_111 (fun H locs hI => ?_)
          obtain ⟨σ_40, e_m_40, h⟩ := nm_some h
          rw [← e_m_40] at hI; clear e_m_40
          refine lv_aload_n Γ.1.1 Γ.1.2.1 dX12_laysNear_112 rfl (lv_at hl 0 rfl) ?_
          refine lv_dup Γ.1.1 Γ.1.2.1 dX12_laysNear_113 rfl ?_
          refine get_X12_piled Γ hI gw_278 dX12_laysNear_114 ?_
          refine lv_iconst (v := (1 : Int32)) Γ.1.1 Γ.1.2.1 dX12_laysNear_117 (by decide) ?_
          refine lv_iadd Γ.1.1 Γ.1.2.1 dX12_laysNear_118 ?_
          refine put_X12_piled Γ hI gw_278 dX12_laysNear_119 (fun H locs hI => ?_)
          obtain ⟨σ_41, e_m_41, h⟩ := nm_some h
          rw [← e_m_41] at hI; clear e_m_41
          refine lv_iload_n Γ.1.1 Γ.1.2.1 dX12_laysNear_122 rfl (lv_at hl 1 rfl) ?_
          refine lv_iconst (v := (1 : Int32)) Γ.1.1 Γ.1.2.1 dX12_laysNear_123 (by decide) ?_
          refine lv_iload_n Γ.1.1 Γ.1.2.1 dX12_laysNear_124 rfl (lv_at hl 2 rfl) ?_
          refine lv_ishl Γ.1.1 Γ.1.2.1 dX12_laysNear_125 ?_
          refine lv_iconst (v := (-1 : Int32)) Γ.1.1 Γ.1.2.1 dX12_laysNear_126 (by decide) ?_
          refine lv_ixor Γ.1.1 Γ.1.2.1 dX12_laysNear_127 ?_
          refine lv_iand Γ.1.1 Γ.1.2.1 dX12_laysNear_128 ?_
          refine lv_topi (fun v1_42 e_v1_42 => ?_)
          replace h := nm_at e_v1_42 h; clear e_v1_42
          refine lv_istore_n (lv' := [(1, .int v1_42), (0, .ref (X.2.1 + 60)), (2, .int v2)]) Γ.1.1 Γ.1.2.1 dX12_laysNear_129 rfl hl (by decide) rfl (fun ls hl => ?_)
          obtain ⟨v2_43, e_v2_43, h⟩ := nm_some h
          refine lv_iinc (v := v2_43) (lv' := [(2, .int v2_43), (1, .int v1_42), (0, .ref (X.2.1 + 60))]) Γ.1.1 Γ.1.2.1 dX12_laysNear_130 hl (k := 2) rfl (by rw [e_v2_43]; rfl) (by decide) rfl (fun ls hl => ?_)
          clear e_v2_43
          refine lv_goto (tgt := 76) Γ.1.1 Γ.1.2.1 dX12_laysNear_133 (by decide) ?_
          exact ih σ_41 v1_42 v2_43 _ _ _ hI (lv_sub hl [2, 1, 0] rfl) h
        · replace h := ite_neg c_38 h; clear c_38
          refine lv_goto (tgt := 130) Γ.1.1 Γ.1.2.1 dX12_laysNear_99 (by decide) ?_
          obtain ⟨v2_44, e_v2_44, h⟩ := nm_some h
          refine lv_iinc (v := v2_44) (lv' := [(2, .int v2_44), (0, .ref (X.2.1 + 60)), (1, .int v1)]) Γ.1.1 Γ.1.2.1 dX12_laysNear_130 hl (k := 2) rfl (by rw [e_v2_44]; rfl) (by decide) rfl (fun ls hl => ?_)
          clear e_v2_44
          refine lv_goto (tgt := 76) Γ.1.1 Γ.1.2.1 dX12_laysNear_133 (by decide) ?_
          exact ih σ v1 v2_44 _ _ _ hI (lv_sub hl [1, 2, 0] rfl) h
set_option maxRecDepth 20000 in
set_option maxHeartbeats 4000000 in
theorem s_X12_laysNear_L64 {p : Program} {l : Launch} {e : Env} {s : State} {m : MethodId} {args : Array Value} {below : List Frame} {meth : Method} {c : Code} {X : GX} (σr : GM) (x : Int32) (Γ : gC X p m meth c cX12_laysNear 4 s args RX12 (some .int)) :
    ∀ (k : Nat) (σ : GM) (v1 : Int32) (H : Heap) (locs : List Loc) (ls : Array Slot), gI X σ s H locs → lv_has ls 4 [(0, .ref (X.2.1 + 60)), (1, .int v1)] → f_X12_laysNear_L64 k σ v1 = some (σr, x) →
    W p l e ({ frames := 203, cells := 0, slots := 0, locals := 4685 } : Room) s m args below meth c H locs 0 0 (MQ below (gQi X σr x) args s 0 0 (gA X)) (F0 m 64 ls []) := by
  intro k
  induction k with
  | zero =>
    intro σ v1 H locs ls hI hl h
    exact absurd h (by simp [f_X12_laysNear_L64])
  | succ k ih =>
    intro σ v1 H locs ls hI hl h
    unfold f_X12_laysNear_L64 at h
    refine lv_iload_n Γ.1.1 Γ.1.2.1 dX12_laysNear_64 rfl (lv_at hl 1 rfl) ?_
    refine lv_if_eq (tgt := 145) Γ.1.1 Γ.1.2.1 dX12_laysNear_65 (by decide) (fun c_11 => ?_) (fun c_11 => ?_)
    · replace h := ite_pos c_11 h; clear c_11
      exact s_X12_laysNear_L145 σr x Γ σ _ _ _ hI (lv_sub hl [0] rfl) h
    · replace h := ite_neg c_11 h; clear c_11
      refine lv_aload_n Γ.1.1 Γ.1.2.1 dX12_laysNear_68 rfl (lv_at hl 0 rfl) ?_
      refine lv_iload_n Γ.1.1 Γ.1.2.1 dX12_laysNear_69 rfl (lv_at hl 1 rfl) ?_
      obtain ⟨σ_29, hr_28, h⟩ := ob_some h
      refine g_cv Γ hI (g_runV (As := [.int v1]) Γ hI (S_X12_sinks l X σ v1 σ_29 hr_28) mf_X12_sinks (recv_X12 Γ hI) gw_281 rfl rfl ⟨Nat.le_of_ble_eq_true rfl, Nat.le_of_ble_eq_true rfl⟩ rfl hl.1 rfl (Nat.le_of_ble_eq_true rfl) dX12_laysNear_70 ⟨Nat.zero_le _, Nat.zero_le _⟩) (fun H locs hI => ?_)
      clear hr_28
      refine lv_bipush (v := (11 : Int32)) Γ.1.1 Γ.1.2.1 dX12_laysNear_73 (by decide) ?_
      refine lv_istore_n (lv' := [(2, .int (11 : Int32)), (0, .ref (X.2.1 + 60)), (1, .int v1)]) Γ.1.1 Γ.1.2.1 dX12_laysNear_75 rfl hl (by decide) rfl (fun ls hl => ?_)
      exact s_X12_laysNear_L76 σr x Γ _ ih _ σ_29 v1 (11 : Int32) _ _ _ hI (lv_sub hl [1, 2, 0] rfl) h
set_option maxRecDepth 20000 in
set_option maxHeartbeats 4000000 in
theorem s_X12_laysNear_L40 {p : Program} {l : Launch} {e : Env} {s : State} {m : MethodId} {args : Array Value} {below : List Frame} {meth : Method} {c : Code} {X : GX} (σr : GM) (x : Int32) (Γ : gC X p m meth c cX12_laysNear 4 s args RX12 (some .int)) :
    ∀ (σ : GM) (H : Heap) (locs : List Loc) (ls : Array Slot), gI X σ s H locs → lv_has ls 4 [(0, .ref (X.2.1 + 60))] → f_X12_laysNear_L40 σ = some (σr, x) →
    W p l e ({ frames := 203, cells := 0, slots := 0, locals := 4685 } : Room) s m args below meth c H locs 0 0 (MQ below (gQi X σr x) args s 0 0 (gA X)) (F0 m 40 ls []) := by
  intro σ H locs ls hI hl h
  unfold f_X12_laysNear_L40 at h
  refine lv_aload_n Γ.1.1 Γ.1.2.1 dX12_laysNear_40 rfl (lv_at hl 0 rfl) ?_
  refine lv_lconst (v := (0 : Int64)) Γ.1.1 Γ.1.2.1 dX12_laysNear_41 (by decide) ?_
  refine put_X12_boundAbove Γ hI gw_273 dX12_laysNear_42 (fun H locs hI => ?_)
  obtain ⟨σ_4, e_m_4, h⟩ := nm_some h
  rw [← e_m_4] at hI; clear e_m_4
  refine lv_aload_n Γ.1.1 Γ.1.2.1 dX12_laysNear_45 rfl (lv_at hl 0 rfl) ?_
  refine lv_lconst (v := (1 : Int64)) Γ.1.1 Γ.1.2.1 dX12_laysNear_46 (by decide) ?_
  refine put_X12_boundBelow Γ hI gw_274 dX12_laysNear_47 (fun H locs hI => ?_)
  obtain ⟨σ_5, e_m_5, h⟩ := nm_some h
  rw [← e_m_5] at hI; clear e_m_5
  refine lv_aload_n Γ.1.1 Γ.1.2.1 dX12_laysNear_50 rfl (lv_at hl 0 rfl) ?_
  refine lv_iconst (v := (0 : Int32)) Γ.1.1 Γ.1.2.1 dX12_laysNear_51 (by decide) ?_
  refine put_X12_piled Γ hI gw_278 dX12_laysNear_52 (fun H locs hI => ?_)
  obtain ⟨σ_6, e_m_6, h⟩ := nm_some h
  rw [← e_m_6] at hI; clear e_m_6
  refine lv_aload_n Γ.1.1 Γ.1.2.1 dX12_laysNear_55 rfl (lv_at hl 0 rfl) ?_
  refine lv_aload_n Γ.1.1 Γ.1.2.1 dX12_laysNear_56 rfl (lv_at hl 0 rfl) ?_
  obtain ⟨r_7, hr_7, h⟩ := ob_some h
  refine g_ci Γ hI (g_runV (As := []) Γ hI (S_X12_there l X σ_6 r_7 hr_7) mf_X12_there (recv_X12 Γ hI) gw_250 rfl rfl ⟨Nat.le_of_ble_eq_true rfl, Nat.le_of_ble_eq_true rfl⟩ rfl hl.1 rfl (Nat.le_of_ble_eq_true rfl) dX12_laysNear_57 ⟨Nat.zero_le _, Nat.zero_le _⟩) (fun H locs hI => ?_)
  clear hr_7
  obtain ⟨r_9, hr_9, h⟩ := ob_some h
  refine g_ci Γ hI (g_runV (As := [.int r_7]) Γ hI (S_X12_trimmed l X σ_6 r_7 r_9 hr_9) mf_X12_trimmed (recv_X12 Γ hI) gw_279 rfl rfl ⟨Nat.le_of_ble_eq_true rfl, Nat.le_of_ble_eq_true rfl⟩ rfl hl.1 rfl (Nat.le_of_ble_eq_true rfl) dX12_laysNear_60 ⟨Nat.zero_le _, Nat.zero_le _⟩) (fun H locs hI => ?_)
  clear hr_9
  refine lv_istore_n (lv' := [(1, .int r_9), (0, .ref (X.2.1 + 60))]) Γ.1.1 Γ.1.2.1 dX12_laysNear_63 rfl hl (by decide) rfl (fun ls hl => ?_)
  exact s_X12_laysNear_L64 σr x Γ _ σ_6 r_9 _ _ _ hI (lv_sub hl [1, 0] rfl) h
set_option maxRecDepth 20000 in
set_option maxHeartbeats 4000000 in
theorem s_X12_laysNear_L6 {p : Program} {l : Launch} {e : Env} {s : State} {m : MethodId} {args : Array Value} {below : List Frame} {meth : Method} {c : Code} {X : GX} (σr : GM) (x : Int32) (Γ : gC X p m meth c cX12_laysNear 4 s args RX12 (some .int)) :
    ∀ (k : Nat) (σ : GM) (v1 : Int32) (H : Heap) (locs : List Loc) (ls : Array Slot), gI X σ s H locs → lv_has ls 4 [(0, .ref (X.2.1 + 60)), (1, .int v1)] → f_X12_laysNear_L6 k σ v1 = some (σr, x) →
    W p l e ({ frames := 203, cells := 0, slots := 0, locals := 4685 } : Room) s m args below meth c H locs 0 0 (MQ below (gQi X σr x) args s 0 0 (gA X)) (F0 m 6 ls []) := by
  intro k
  induction k with
  | zero =>
    intro σ v1 H locs ls hI hl h
    exact absurd h (by simp [f_X12_laysNear_L6])
  | succ k ih =>
    intro σ v1 H locs ls hI hl h
    unfold f_X12_laysNear_L6 at h
    refine lv_iload_n Γ.1.1 Γ.1.2.1 dX12_laysNear_6 rfl (lv_at hl 1 rfl) ?_
    refine lv_bipush (v := (12 : Int32)) Γ.1.1 Γ.1.2.1 dX12_laysNear_7 (by decide) ?_
    refine lv_icmp_ge (tgt := 40) Γ.1.1 Γ.1.2.1 dX12_laysNear_9 (by decide) (fun c_3 => ?_) (fun c_3 => ?_)
    · replace h := ite_pos c_3 h; clear c_3
      exact s_X12_laysNear_L40 σr x Γ σ _ _ _ hI (lv_sub hl [0] rfl) h
    · replace h := ite_neg c_3 h; clear c_3
      refine lv_aload_n Γ.1.1 Γ.1.2.1 dX12_laysNear_12 rfl (lv_at hl 0 rfl) ?_
      refine get_X12_above Γ hI gw_271 dX12_laysNear_13 ?_
      refine lv_iload_n Γ.1.1 Γ.1.2.1 dX12_laysNear_16 rfl (lv_at hl 1 rfl) ?_
      refine lv_aload_n Γ.1.1 Γ.1.2.1 dX12_laysNear_17 rfl (lv_at hl 0 rfl) ?_
      refine get_X12_now Γ hI gw_244 dX12_laysNear_18 ?_
      refine lv_iconst (v := (3 : Int32)) Γ.1.1 Γ.1.2.1 dX12_laysNear_21 (by decide) ?_
      refine lv_iload_n Γ.1.1 Γ.1.2.1 dX12_laysNear_22 rfl (lv_at hl 1 rfl) ?_
      refine lv_iadd Γ.1.1 Γ.1.2.1 dX12_laysNear_23 ?_
      refine lv_topi (fun i_45 e_i_45 => ?_)
      replace h := nm_at e_i_45 h; clear e_i_45
      obtain ⟨hb_46, h⟩ := bnd_some h
      refine g_iald Γ hI sh_62 hb_46 dX12_laysNear_24 ?_
      refine lv_i2l (v := (((σ.1 62 i_45.toNatClampNeg)).toInt64)) Γ.1.1 Γ.1.2.1 dX12_laysNear_25 rfl ?_
      obtain ⟨hb_47, h⟩ := bnd_some h
      refine g_last Γ hI sh_72 hb_47 dX12_laysNear_26 (fun H locs hI => ?_)
      obtain ⟨σ_48, e_m_48, h⟩ := nm_some h
      rw [← e_m_48] at hI; clear e_m_48
      refine lv_aload_n Γ.1.1 Γ.1.2.1 dX12_laysNear_27 rfl (lv_at hl 0 rfl) ?_
      refine get_X12_below Γ hI gw_272 dX12_laysNear_28 ?_
      refine lv_iload_n Γ.1.1 Γ.1.2.1 dX12_laysNear_31 rfl (lv_at hl 1 rfl) ?_
      refine lv_lconst (v := (1 : Int64)) Γ.1.1 Γ.1.2.1 dX12_laysNear_32 (by decide) ?_
      obtain ⟨hb_49, h⟩ := bnd_some h
      refine g_last Γ hI sh_73 hb_49 dX12_laysNear_33 (fun H locs hI => ?_)
      obtain ⟨σ_50, e_m_50, h⟩ := nm_some h
      rw [← e_m_50] at hI; clear e_m_50
      obtain ⟨v1_51, e_v1_51, h⟩ := nm_some h
      refine lv_iinc (v := v1_51) (lv' := [(1, .int v1_51), (0, .ref (X.2.1 + 60))]) Γ.1.1 Γ.1.2.1 dX12_laysNear_34 hl (k := 1) rfl (by rw [e_v1_51]; rfl) (by decide) rfl (fun ls hl => ?_)
      clear e_v1_51
      refine lv_goto (tgt := 6) Γ.1.1 Γ.1.2.1 dX12_laysNear_37 (by decide) ?_
      exact ih σ_50 v1_51 _ _ _ hI (lv_sub hl [1, 0] rfl) h
set_option maxRecDepth 20000 in
set_option maxHeartbeats 4000000 in
theorem S_X12_laysNear (l : Launch) (X : GX) (σ : GM) (σr : GM) (x : Int32) (h : f_X12_laysNear σ = some (σr, x)) : gMet l yX12_laysNear cX12_laysNear 4 (some .int) ({ frames := 203, cells := 0, slots := 0, locals := 4685 } : Room) X σ [.ref (X.2.1 + 60)] (gQi X σr x) := by
  unfold f_X12_laysNear at h
  refine gMet_of (lv := [(0, .ref (X.2.1 + 60))]) (by decide) rfl (Nat.le_of_ble_eq_true rfl) rfl (fun p e s m below meth c H ls Γ hI hl => ?_)
  refine lv_aload_n Γ.1.1 Γ.1.2.1 dX12_laysNear_0 rfl (lv_at hl 0 rfl) ?_
  obtain ⟨σ_2, hr_1, h⟩ := ob_some h
  refine g_cv Γ hI (g_runV (As := []) Γ hI (S_X12_laysRings l X σ σ_2 hr_1) mf_X12_laysRings (recv_X12 Γ hI) gw_267 rfl rfl ⟨Nat.le_of_ble_eq_true rfl, Nat.le_of_ble_eq_true rfl⟩ rfl hl.1 rfl (Nat.le_of_ble_eq_true rfl) dX12_laysNear_1 ⟨Nat.zero_le _, Nat.zero_le _⟩) (fun H locs hI => ?_)
  clear hr_1
  refine lv_iconst (v := (0 : Int32)) Γ.1.1 Γ.1.2.1 dX12_laysNear_4 (by decide) ?_
  refine lv_istore_n (lv' := [(1, .int (0 : Int32)), (0, .ref (X.2.1 + 60))]) Γ.1.1 Γ.1.2.1 dX12_laysNear_5 rfl hl (by decide) rfl (fun ls hl => ?_)
  exact s_X12_laysNear_L6 σr x Γ _ σ_2 (0 : Int32) _ _ _ hI (lv_sub hl [1, 0] rfl) h
set_option maxRecDepth 20000 in
set_option maxHeartbeats 4000000 in
theorem S_X12_near (l : Launch) (X : GX) (σ : GM) (σr : GM) (x : Int32) (h : f_X12_near σ = some (σr, x)) : gMet l yX12_near cX12_near 1 (some .int) ({ frames := 204, cells := 0, slots := 0, locals := 4708 } : Room) X σ [.ref (X.2.1 + 60)] (gQi X σr x) := by
  unfold f_X12_near at h
  refine gMet_of (lv := [(0, .ref (X.2.1 + 60))]) (by decide) rfl (Nat.le_of_ble_eq_true rfl) rfl (fun p e s m below meth c H ls Γ hI hl => ?_)
  refine lv_aload_n Γ.1.1 Γ.1.2.1 dX12_near_0 rfl (lv_at hl 0 rfl) ?_
  refine lv_iconst (v := (0 : Int32)) Γ.1.1 Γ.1.2.1 dX12_near_1 (by decide) ?_
  refine put_X12_thrown Γ hI gw_211 dX12_near_2 (fun H locs hI => ?_)
  obtain ⟨σ_1, e_m_1, h⟩ := nm_some h
  rw [← e_m_1] at hI; clear e_m_1
  refine lv_aload_n Γ.1.1 Γ.1.2.1 dX12_near_5 rfl (lv_at hl 0 rfl) ?_
  obtain ⟨σ_3, r_2, hr_2, h⟩ := ob2_some h
  refine g_ci Γ hI (g_runV (As := []) Γ hI (S_X12_laysNear l X σ_1 σ_3 r_2 hr_2) mf_X12_laysNear (recv_X12 Γ hI) gw_282 rfl rfl ⟨Nat.le_of_ble_eq_true rfl, Nat.le_of_ble_eq_true rfl⟩ rfl hl.1 rfl (Nat.le_of_ble_eq_true rfl) dX12_near_6 ⟨Nat.zero_le _, Nat.zero_le _⟩) (fun H locs hI => ?_)
  clear hr_2
  exact g_iret Γ hI dX12_near_9 (Prod.mk.inj (Option.some.inj h)).1 (Prod.mk.inj (Option.some.inj h)).2
set_option maxRecDepth 20000 in
set_option maxHeartbeats 4000000 in
theorem S_X12_bound (l : Launch) (X : GX) (σ : GM) (v1 : Int32) (σr : GM) (x : Int64) (h : f_X12_bound σ v1 = some (σr, x)) : gMet l yX12_bound cX12_bound 2 (some .long) ({ frames := 204, cells := 0, slots := 0, locals := 4708 } : Room) X σ [.ref (X.2.1 + 60), .int v1] (gQl X σr x) := by
  unfold f_X12_bound at h
  refine gMet_of (lv := [(0, .ref (X.2.1 + 60)), (1, .int v1)]) (by decide) rfl (Nat.le_of_ble_eq_true rfl) rfl (fun p e s m below meth c H ls Γ hI hl => ?_)
  refine lv_aload_n Γ.1.1 Γ.1.2.1 dX12_bound_0 rfl (lv_at hl 0 rfl) ?_
  refine lv_iconst (v := (0 : Int32)) Γ.1.1 Γ.1.2.1 dX12_bound_1 (by decide) ?_
  refine put_X12_thrown Γ hI gw_211 dX12_bound_2 (fun H locs hI => ?_)
  obtain ⟨σ_1, e_m_1, h⟩ := nm_some h
  rw [← e_m_1] at hI; clear e_m_1
  refine lv_iload_n Γ.1.1 Γ.1.2.1 dX12_bound_5 rfl (lv_at hl 1 rfl) ?_
  refine lv_iconst (v := (0 : Int32)) Γ.1.1 Γ.1.2.1 dX12_bound_6 (by decide) ?_
  refine lv_iconst (v := (1 : Int32)) Γ.1.1 Γ.1.2.1 dX12_bound_7 (by decide) ?_
  obtain ⟨r_2, hr_2, h⟩ := ob_some h
  refine g_ci Γ hI (g_runS (As := [.int v1, .int (0 : Int32), .int (1 : Int32)]) Γ hI (S_X12_isIn l X σ_1 v1 (0 : Int32) (1 : Int32) r_2 hr_2) mf_X12_isIn gw_239 rfl rfl ⟨Nat.le_of_ble_eq_true rfl, Nat.le_of_ble_eq_true rfl⟩ rfl hl.1 rfl (Nat.le_of_ble_eq_true rfl) dX12_bound_8 ⟨Nat.zero_le _, Nat.zero_le _⟩) (fun H locs hI => ?_)
  clear hr_2
  refine lv_if_ne (tgt := 20) Γ.1.1 Γ.1.2.1 dX12_bound_11 (by decide) (fun c_4 => ?_) (fun c_4 => ?_)
  · replace h := ite_neg c_4 h; clear c_4
    refine lv_aload_n Γ.1.1 Γ.1.2.1 dX12_bound_20 rfl (lv_at hl 0 rfl) ?_
    obtain ⟨σ_6, r_5, hr_5, h⟩ := ob2_some h
    refine g_ci Γ hI (g_runV (As := []) Γ hI (S_X12_laysNear l X σ_1 σ_6 r_5 hr_5) mf_X12_laysNear (recv_X12 Γ hI) gw_282 rfl rfl ⟨Nat.le_of_ble_eq_true rfl, Nat.le_of_ble_eq_true rfl⟩ rfl hl.1 rfl (Nat.le_of_ble_eq_true rfl) dX12_bound_21 ⟨Nat.zero_le _, Nat.zero_le _⟩) (fun H locs hI => ?_)
    clear hr_5
    refine lv_pop Γ.1.1 Γ.1.2.1 dX12_bound_24 rfl ?_
    refine lv_iload_n Γ.1.1 Γ.1.2.1 dX12_bound_25 rfl (lv_at hl 1 rfl) ?_
    refine lv_if_ne (tgt := 36) Γ.1.1 Γ.1.2.1 dX12_bound_26 (by decide) (fun c_7 => ?_) (fun c_7 => ?_)
    · replace h := ite_neg c_7 h; clear c_7
      refine lv_aload_n Γ.1.1 Γ.1.2.1 dX12_bound_36 rfl (lv_at hl 0 rfl) ?_
      refine get_X12_boundBelow Γ hI gw_274 dX12_bound_37 ?_
      exact g_lret Γ hI dX12_bound_40 (Prod.mk.inj (Option.some.inj h)).1 (Prod.mk.inj (Option.some.inj h)).2
    · replace h := ite_pos c_7 h; clear c_7
      refine lv_aload_n Γ.1.1 Γ.1.2.1 dX12_bound_29 rfl (lv_at hl 0 rfl) ?_
      refine get_X12_boundAbove Γ hI gw_273 dX12_bound_30 ?_
      refine lv_goto (tgt := 40) Γ.1.1 Γ.1.2.1 dX12_bound_33 (by decide) ?_
      exact g_lret Γ hI dX12_bound_40 (Prod.mk.inj (Option.some.inj h)).1 (Prod.mk.inj (Option.some.inj h)).2
  · replace h := ite_pos c_4 h; clear c_4
    refine lv_aload_n Γ.1.1 Γ.1.2.1 dX12_bound_14 rfl (lv_at hl 0 rfl) ?_
    obtain ⟨σ_9, r_8, hr_8, h⟩ := ob2_some h
    refine g_ci Γ hI (g_runV (As := []) Γ hI (S_X12_refuse l X σ_1 σ_9 r_8 hr_8) mf_X12_refuse (recv_X12 Γ hI) gw_256 rfl rfl ⟨Nat.le_of_ble_eq_true rfl, Nat.le_of_ble_eq_true rfl⟩ rfl hl.1 rfl (Nat.le_of_ble_eq_true rfl) dX12_bound_15 ⟨Nat.zero_le _, Nat.zero_le _⟩) (fun H locs hI => ?_)
    clear hr_8
    refine lv_i2l (v := (r_8.toInt64)) Γ.1.1 Γ.1.2.1 dX12_bound_18 rfl ?_
    exact g_lret Γ hI dX12_bound_19 (Prod.mk.inj (Option.some.inj h)).1 (Prod.mk.inj (Option.some.inj h)).2
set_option maxRecDepth 20000 in
set_option maxHeartbeats 4000000 in
theorem s_X12_snap_L50 {p : Program} {l : Launch} {e : Env} {s : State} {m : MethodId} {args : Array Value} {below : List Frame} {meth : Method} {c : Code} {X : GX} (σr : GM) (Γ : gC X p m meth c cX12_snap 2 s args RX12 none) :
    ∀ (σ : GM) (H : Heap) (locs : List Loc) (ls : Array Slot), gI X σ s H locs → lv_has ls 2 [(0, .ref (X.2.1 + 60))] → f_X12_snap_L50 σ = some σr →
    W p l e ({ frames := 1, cells := 0, slots := 0, locals := 24 } : Room) s m args below meth c H locs 0 0 (MQ below (gQv X σr) args s 0 0 (gA X)) (F0 m 50 ls []) := by
  intro σ H locs ls hI hl h
  unfold f_X12_snap_L50 at h
  refine lv_aload_n Γ.1.1 Γ.1.2.1 dX12_snap_50 rfl (lv_at hl 0 rfl) ?_
  refine get_X12_now Γ hI gw_244 dX12_snap_51 ?_
  refine lv_iconst (v := (0 : Int32)) Γ.1.1 Γ.1.2.1 dX12_snap_54 (by decide) ?_
  refine lv_aload_n Γ.1.1 Γ.1.2.1 dX12_snap_55 rfl (lv_at hl 0 rfl) ?_
  refine get_X12_snaps Γ hI gw_283 dX12_snap_56 ?_
  refine lv_sipush (v := (159 : Int32)) Γ.1.1 Γ.1.2.1 dX12_snap_59 (by decide) ?_
  refine lv_aload_n Γ.1.1 Γ.1.2.1 dX12_snap_62 rfl (lv_at hl 0 rfl) ?_
  refine get_X12_snapMany Γ hI gw_246 dX12_snap_63 ?_
  refine lv_imul Γ.1.1 Γ.1.2.1 dX12_snap_66 ?_
  obtain ⟨σ_3, hr_2, h⟩ := ob_some h
  refine g_cv Γ hI (g_runS (As := [.ref (X.2.1 + 62), .int (0 : Int32), .ref (X.2.1 + 65), .int ((159 : Int32) * (σ.1 60 19))]) Γ hI (S_X12_copy l X σ 62 65 sh_62 sh_65 (0 : Int32) ((159 : Int32) * (σ.1 60 19)) σ_3 hr_2) mf_X12_copy gw_245 rfl rfl ⟨Nat.le_of_ble_eq_true rfl, Nat.le_of_ble_eq_true rfl⟩ rfl hl.1 rfl (Nat.le_of_ble_eq_true rfl) dX12_snap_67 ⟨Nat.zero_le _, Nat.zero_le _⟩) (fun H locs hI => ?_)
  clear hr_2
  refine lv_aload_n Γ.1.1 Γ.1.2.1 dX12_snap_70 rfl (lv_at hl 0 rfl) ?_
  refine lv_dup Γ.1.1 Γ.1.2.1 dX12_snap_71 rfl ?_
  refine get_X12_snapMany Γ hI gw_246 dX12_snap_72 ?_
  refine lv_iconst (v := (1 : Int32)) Γ.1.1 Γ.1.2.1 dX12_snap_75 (by decide) ?_
  refine lv_iadd Γ.1.1 Γ.1.2.1 dX12_snap_76 ?_
  refine put_X12_snapMany Γ hI gw_246 dX12_snap_77 (fun H locs hI => ?_)
  obtain ⟨σ_4, e_m_4, h⟩ := nm_some h
  rw [← e_m_4] at hI; clear e_m_4
  exact g_vret Γ hI dX12_snap_80 (Option.some.inj h)
set_option maxRecDepth 20000 in
set_option maxHeartbeats 4000000 in
theorem s_X12_snap_L40 {p : Program} {l : Launch} {e : Env} {s : State} {m : MethodId} {args : Array Value} {below : List Frame} {meth : Method} {c : Code} {X : GX} (σr : GM) (Γ : gC X p m meth c cX12_snap 2 s args RX12 none) :
    ∀ (σ : GM) (H : Heap) (locs : List Loc) (ls : Array Slot), gI X σ s H locs → lv_has ls 2 [(0, .ref (X.2.1 + 60))] → f_X12_snap_L40 σ = some σr →
    W p l e ({ frames := 1, cells := 0, slots := 0, locals := 24 } : Room) s m args below meth c H locs 0 0 (MQ below (gQv X σr) args s 0 0 (gA X)) (F0 m 40 ls []) := by
  intro σ H locs ls hI hl h
  unfold f_X12_snap_L40 at h
  refine lv_aload_n Γ.1.1 Γ.1.2.1 dX12_snap_40 rfl (lv_at hl 0 rfl) ?_
  refine lv_dup Γ.1.1 Γ.1.2.1 dX12_snap_41 rfl ?_
  refine get_X12_snapMany Γ hI gw_246 dX12_snap_42 ?_
  refine lv_iconst (v := (1 : Int32)) Γ.1.1 Γ.1.2.1 dX12_snap_45 (by decide) ?_
  refine lv_isub Γ.1.1 Γ.1.2.1 dX12_snap_46 ?_
  refine put_X12_snapMany Γ hI gw_246 dX12_snap_47 (fun H locs hI => ?_)
  obtain ⟨σ_6, e_m_6, h⟩ := nm_some h
  rw [← e_m_6] at hI; clear e_m_6
  exact s_X12_snap_L50 σr Γ σ_6 _ _ _ hI hl h
set_option maxRecDepth 20000 in
set_option maxHeartbeats 4000000 in
theorem s_X12_snap_L11 {p : Program} {l : Launch} {e : Env} {s : State} {m : MethodId} {args : Array Value} {below : List Frame} {meth : Method} {c : Code} {X : GX} (σr : GM) (Γ : gC X p m meth c cX12_snap 2 s args RX12 none) :
    ∀ (k : Nat) (σ : GM) (v1 : Int32) (H : Heap) (locs : List Loc) (ls : Array Slot), gI X σ s H locs → lv_has ls 2 [(0, .ref (X.2.1 + 60)), (1, .int v1)] → f_X12_snap_L11 k σ v1 = some σr →
    W p l e ({ frames := 1, cells := 0, slots := 0, locals := 24 } : Room) s m args below meth c H locs 0 0 (MQ below (gQv X σr) args s 0 0 (gA X)) (F0 m 11 ls []) := by
  intro k
  induction k with
  | zero =>
    intro σ v1 H locs ls hI hl h
    exact absurd h (by simp [f_X12_snap_L11])
  | succ k ih =>
    intro σ v1 H locs ls hI hl h
    unfold f_X12_snap_L11 at h
    refine lv_iload_n Γ.1.1 Γ.1.2.1 dX12_snap_11 rfl (lv_at hl 1 rfl) ?_
    refine lv_sipush (v := (1113 : Int32)) Γ.1.1 Γ.1.2.1 dX12_snap_12 (by decide) ?_
    refine lv_icmp_ge (tgt := 40) Γ.1.1 Γ.1.2.1 dX12_snap_15 (by decide) (fun c_5 => ?_) (fun c_5 => ?_)
    · replace h := ite_pos c_5 h; clear c_5
      exact s_X12_snap_L40 σr Γ σ _ _ _ hI (lv_sub hl [0] rfl) h
    · replace h := ite_neg c_5 h; clear c_5
      refine lv_aload_n Γ.1.1 Γ.1.2.1 dX12_snap_18 rfl (lv_at hl 0 rfl) ?_
      refine get_X12_snaps Γ hI gw_283 dX12_snap_19 ?_
      refine lv_iload_n Γ.1.1 Γ.1.2.1 dX12_snap_22 rfl (lv_at hl 1 rfl) ?_
      refine lv_aload_n Γ.1.1 Γ.1.2.1 dX12_snap_23 rfl (lv_at hl 0 rfl) ?_
      refine get_X12_snaps Γ hI gw_283 dX12_snap_24 ?_
      refine lv_iload_n Γ.1.1 Γ.1.2.1 dX12_snap_27 rfl (lv_at hl 1 rfl) ?_
      refine lv_sipush (v := (159 : Int32)) Γ.1.1 Γ.1.2.1 dX12_snap_28 (by decide) ?_
      refine lv_iadd Γ.1.1 Γ.1.2.1 dX12_snap_31 ?_
      refine lv_topi (fun i_7 e_i_7 => ?_)
      replace h := nm_at e_i_7 h; clear e_i_7
      obtain ⟨hb_8, h⟩ := bnd_some h
      refine g_iald Γ hI sh_65 hb_8 dX12_snap_32 ?_
      obtain ⟨hb_9, h⟩ := bnd_some h
      refine g_iast Γ hI sh_65 hb_9 dX12_snap_33 (fun H locs hI => ?_)
      obtain ⟨σ_10, e_m_10, h⟩ := nm_some h
      rw [← e_m_10] at hI; clear e_m_10
      obtain ⟨v1_11, e_v1_11, h⟩ := nm_some h
      refine lv_iinc (v := v1_11) (lv' := [(1, .int v1_11), (0, .ref (X.2.1 + 60))]) Γ.1.1 Γ.1.2.1 dX12_snap_34 hl (k := 1) rfl (by rw [e_v1_11]; rfl) (by decide) rfl (fun ls hl => ?_)
      clear e_v1_11
      refine lv_goto (tgt := 11) Γ.1.1 Γ.1.2.1 dX12_snap_37 (by decide) ?_
      exact ih σ_10 v1_11 _ _ _ hI (lv_sub hl [1, 0] rfl) h
set_option maxRecDepth 20000 in
set_option maxHeartbeats 4000000 in
theorem S_X12_snap (l : Launch) (X : GX) (σ : GM) (σr : GM) (h : f_X12_snap σ = some σr) : gMet l yX12_snap cX12_snap 2 none ({ frames := 1, cells := 0, slots := 0, locals := 24 } : Room) X σ [.ref (X.2.1 + 60)] (gQv X σr) := by
  unfold f_X12_snap at h
  refine gMet_of (lv := [(0, .ref (X.2.1 + 60))]) (by decide) rfl (Nat.le_of_ble_eq_true rfl) rfl (fun p e s m below meth c H ls Γ hI hl => ?_)
  refine lv_aload_n Γ.1.1 Γ.1.2.1 dX12_snap_0 rfl (lv_at hl 0 rfl) ?_
  refine get_X12_snapMany Γ hI gw_246 dX12_snap_1 ?_
  refine lv_bipush (v := (8 : Int32)) Γ.1.1 Γ.1.2.1 dX12_snap_4 (by decide) ?_
  refine lv_icmp_ne (tgt := 50) Γ.1.1 Γ.1.2.1 dX12_snap_6 (by decide) (fun c_1 => ?_) (fun c_1 => ?_)
  · replace h := ite_neg c_1 h; clear c_1
    exact s_X12_snap_L50 σr Γ σ _ _ _ hI hl h
  · replace h := ite_pos c_1 h; clear c_1
    refine lv_iconst (v := (0 : Int32)) Γ.1.1 Γ.1.2.1 dX12_snap_9 (by decide) ?_
    refine lv_istore_n (lv' := [(1, .int (0 : Int32)), (0, .ref (X.2.1 + 60))]) Γ.1.1 Γ.1.2.1 dX12_snap_10 rfl hl (by decide) rfl (fun ls hl => ?_)
    exact s_X12_snap_L11 σr Γ _ σ (0 : Int32) _ _ _ hI (lv_sub hl [1, 0] rfl) h
set_option maxRecDepth 20000 in
set_option maxHeartbeats 4000000 in
theorem S_X12_stay (l : Launch) (X : GX) (σ : GM) (σr : GM) (h : f_X12_stay σ = some σr) : gMet l yX12_stay cX12_stay 1 none ({ frames := 2, cells := 0, slots := 0, locals := 45 } : Room) X σ [.ref (X.2.1 + 60)] (gQv X σr) := by
  unfold f_X12_stay at h
  refine gMet_of (lv := [(0, .ref (X.2.1 + 60))]) (by decide) rfl (Nat.le_of_ble_eq_true rfl) rfl (fun p e s m below meth c H ls Γ hI hl => ?_)
  refine lv_aload_n Γ.1.1 Γ.1.2.1 dX12_stay_0 rfl (lv_at hl 0 rfl) ?_
  refine get_X12_now Γ hI gw_244 dX12_stay_1 ?_
  refine lv_iconst (v := (0 : Int32)) Γ.1.1 Γ.1.2.1 dX12_stay_4 (by decide) ?_
  refine lv_aload_n Γ.1.1 Γ.1.2.1 dX12_stay_5 rfl (lv_at hl 0 rfl) ?_
  refine get_X12_live Γ hI gw_284 dX12_stay_6 ?_
  refine lv_iconst (v := (0 : Int32)) Γ.1.1 Γ.1.2.1 dX12_stay_9 (by decide) ?_
  obtain ⟨σ_2, hr_1, h⟩ := ob_some h
  refine g_cv Γ hI (g_runS (As := [.ref (X.2.1 + 62), .int (0 : Int32), .ref (X.2.1 + 67), .int (0 : Int32)]) Γ hI (S_X12_copy l X σ 62 67 sh_62 sh_67 (0 : Int32) (0 : Int32) σ_2 hr_1) mf_X12_copy gw_245 rfl rfl ⟨Nat.le_of_ble_eq_true rfl, Nat.le_of_ble_eq_true rfl⟩ rfl hl.1 rfl (Nat.le_of_ble_eq_true rfl) dX12_stay_10 ⟨Nat.zero_le _, Nat.zero_le _⟩) (fun H locs hI => ?_)
  clear hr_1
  refine lv_aload_n Γ.1.1 Γ.1.2.1 dX12_stay_13 rfl (lv_at hl 0 rfl) ?_
  refine get_X12_before Γ hI gw_285 dX12_stay_14 ?_
  refine lv_iconst (v := (0 : Int32)) Γ.1.1 Γ.1.2.1 dX12_stay_17 (by decide) ?_
  refine lv_aload_n Γ.1.1 Γ.1.2.1 dX12_stay_18 rfl (lv_at hl 0 rfl) ?_
  refine get_X12_now Γ hI gw_244 dX12_stay_19 ?_
  refine lv_iconst (v := (0 : Int32)) Γ.1.1 Γ.1.2.1 dX12_stay_22 (by decide) ?_
  obtain ⟨σ_4, hr_3, h⟩ := ob_some h
  refine g_cv Γ hI (g_runS (As := [.ref (X.2.1 + 66), .int (0 : Int32), .ref (X.2.1 + 62), .int (0 : Int32)]) Γ hI (S_X12_copy l X σ_2 66 62 sh_66 sh_62 (0 : Int32) (0 : Int32) σ_4 hr_3) mf_X12_copy gw_245 rfl rfl ⟨Nat.le_of_ble_eq_true rfl, Nat.le_of_ble_eq_true rfl⟩ rfl hl.1 rfl (Nat.le_of_ble_eq_true rfl) dX12_stay_23 ⟨Nat.zero_le _, Nat.zero_le _⟩) (fun H locs hI => ?_)
  clear hr_3
  refine lv_aload_n Γ.1.1 Γ.1.2.1 dX12_stay_26 rfl (lv_at hl 0 rfl) ?_
  obtain ⟨σ_6, hr_5, h⟩ := ob_some h
  refine g_cv Γ hI (g_runV (As := []) Γ hI (S_X12_snap l X σ_4 σ_6 hr_5) mf_X12_snap (recv_X12 Γ hI) gw_286 rfl rfl ⟨Nat.le_of_ble_eq_true rfl, Nat.le_of_ble_eq_true rfl⟩ rfl hl.1 rfl (Nat.le_of_ble_eq_true rfl) dX12_stay_27 ⟨Nat.zero_le _, Nat.zero_le _⟩) (fun H locs hI => ?_)
  clear hr_5
  refine lv_aload_n Γ.1.1 Γ.1.2.1 dX12_stay_30 rfl (lv_at hl 0 rfl) ?_
  refine get_X12_live Γ hI gw_284 dX12_stay_31 ?_
  refine lv_iconst (v := (0 : Int32)) Γ.1.1 Γ.1.2.1 dX12_stay_34 (by decide) ?_
  refine lv_aload_n Γ.1.1 Γ.1.2.1 dX12_stay_35 rfl (lv_at hl 0 rfl) ?_
  refine get_X12_now Γ hI gw_244 dX12_stay_36 ?_
  refine lv_iconst (v := (0 : Int32)) Γ.1.1 Γ.1.2.1 dX12_stay_39 (by decide) ?_
  obtain ⟨σ_8, hr_7, h⟩ := ob_some h
  refine g_cv Γ hI (g_runS (As := [.ref (X.2.1 + 67), .int (0 : Int32), .ref (X.2.1 + 62), .int (0 : Int32)]) Γ hI (S_X12_copy l X σ_6 67 62 sh_67 sh_62 (0 : Int32) (0 : Int32) σ_8 hr_7) mf_X12_copy gw_245 rfl rfl ⟨Nat.le_of_ble_eq_true rfl, Nat.le_of_ble_eq_true rfl⟩ rfl hl.1 rfl (Nat.le_of_ble_eq_true rfl) dX12_stay_40 ⟨Nat.zero_le _, Nat.zero_le _⟩) (fun H locs hI => ?_)
  clear hr_7
  exact g_vret Γ hI dX12_stay_43 (Option.some.inj h)
set_option maxRecDepth 20000 in
set_option maxHeartbeats 4000000 in
theorem s_X12_leaves_L13 {p : Program} {l : Launch} {e : Env} {s : State} {m : MethodId} {args : Array Value} {below : List Frame} {meth : Method} {c : Code} {X : GX} (qa : Nat) (hqa : sh qa = (11, 159)) (σr : GM) (Γ : gC X p m meth c cX12_leaves 3 s args RX12 none) (v1 : Int32) :
    ∀ (k : Nat) (σ : GM) (v2 : Int32) (H : Heap) (locs : List Loc) (ls : Array Slot), gI X σ s H locs → lv_has ls 3 [(0, .ref (X.2.1 + qa)), (1, .int v1), (2, .int v2)] → f_X12_leaves_L13 qa v1 k σ v2 = some σr →
    W p l e ({ frames := 1, cells := 0, slots := 0, locals := 23 } : Room) s m args below meth c H locs 0 0 (MQ below (gQv X σr) args s 0 0 (gA X)) (F0 m 13 ls []) := by
  intro k
  induction k with
  | zero =>
    intro σ v2 H locs ls hI hl h
    exact absurd h (by simp [f_X12_leaves_L13])
  | succ k ih =>
    intro σ v2 H locs ls hI hl h
    unfold f_X12_leaves_L13 at h
    refine lv_iload_n Γ.1.1 Γ.1.2.1 dX12_leaves_13 rfl (lv_at hl 2 rfl) ?_
    refine lv_bipush (v := (12 : Int32)) Γ.1.1 Γ.1.2.1 dX12_leaves_14 (by decide) ?_
    refine lv_icmp_ge (tgt := 38) Γ.1.1 Γ.1.2.1 dX12_leaves_16 (by decide) (fun c_4 => ?_) (fun c_4 => ?_)
    · replace h := ite_pos c_4 h; clear c_4
      exact g_vret Γ hI dX12_leaves_38 (Option.some.inj h)
    · replace h := ite_neg c_4 h; clear c_4
      refine lv_aload_n Γ.1.1 Γ.1.2.1 dX12_leaves_19 rfl (lv_at hl 0 rfl) ?_
      refine lv_iload_n Γ.1.1 Γ.1.2.1 dX12_leaves_20 rfl (lv_at hl 1 rfl) ?_
      refine lv_iload_n Γ.1.1 Γ.1.2.1 dX12_leaves_21 rfl (lv_at hl 2 rfl) ?_
      refine lv_aload_n Γ.1.1 Γ.1.2.1 dX12_leaves_22 rfl (lv_at hl 0 rfl) ?_
      refine lv_iload_n Γ.1.1 Γ.1.2.1 dX12_leaves_23 rfl (lv_at hl 1 rfl) ?_
      refine lv_iload_n Γ.1.1 Γ.1.2.1 dX12_leaves_24 rfl (lv_at hl 2 rfl) ?_
      obtain ⟨r_5, hr_5, h⟩ := ob_some h
      refine g_ci Γ hI (g_runS (As := [.ref (X.2.1 + qa), .int v1, .int v2]) Γ hI (S_X12_between l X σ qa hqa v1 v2 r_5 hr_5) mf_X12_between gw_232 rfl rfl ⟨Nat.le_of_ble_eq_true rfl, Nat.le_of_ble_eq_true rfl⟩ rfl hl.1 rfl (Nat.le_of_ble_eq_true rfl) dX12_leaves_25 ⟨Nat.zero_le _, Nat.zero_le _⟩) (fun H locs hI => ?_)
      clear hr_5
      refine lv_ineg Γ.1.1 Γ.1.2.1 dX12_leaves_28 ?_
      obtain ⟨σ_8, hr_7, h⟩ := ob_some h
      refine g_cv Γ hI (g_runS (As := [.ref (X.2.1 + qa), .int v1, .int v2, .int (-r_5)]) Γ hI (S_X12_adds l X σ qa hqa v1 v2 (-r_5) σ_8 hr_7) mf_X12_adds gw_243 rfl rfl ⟨Nat.le_of_ble_eq_true rfl, Nat.le_of_ble_eq_true rfl⟩ rfl hl.1 rfl (Nat.le_of_ble_eq_true rfl) dX12_leaves_29 ⟨Nat.zero_le _, Nat.zero_le _⟩) (fun H locs hI => ?_)
      clear hr_7
      obtain ⟨v2_9, e_v2_9, h⟩ := nm_some h
      refine lv_iinc (v := v2_9) (lv' := [(2, .int v2_9), (0, .ref (X.2.1 + qa)), (1, .int v1)]) Γ.1.1 Γ.1.2.1 dX12_leaves_32 hl (k := 2) rfl (by rw [e_v2_9]; rfl) (by decide) rfl (fun ls hl => ?_)
      clear e_v2_9
      refine lv_goto (tgt := 13) Γ.1.1 Γ.1.2.1 dX12_leaves_35 (by decide) ?_
      exact ih σ_8 v2_9 _ _ _ hI (lv_sub hl [1, 2, 0] rfl) h
set_option maxRecDepth 20000 in
set_option maxHeartbeats 4000000 in
theorem S_X12_leaves (l : Launch) (X : GX) (σ : GM) (qa : Nat) (hqa : sh qa = (11, 159)) (v1 : Int32) (σr : GM) (h : f_X12_leaves σ qa v1 = some σr) : gMet l yX12_leaves cX12_leaves 3 none ({ frames := 1, cells := 0, slots := 0, locals := 23 } : Room) X σ [.ref (X.2.1 + qa), .int v1] (gQv X σr) := by
  unfold f_X12_leaves at h
  refine gMet_of (lv := [(0, .ref (X.2.1 + qa)), (1, .int v1)]) (by decide) rfl (Nat.le_of_ble_eq_true rfl) rfl (fun p e s m below meth c H ls Γ hI hl => ?_)
  refine lv_aload_n Γ.1.1 Γ.1.2.1 dX12_leaves_0 rfl (lv_at hl 0 rfl) ?_
  refine lv_iconst (v := (1 : Int32)) Γ.1.1 Γ.1.2.1 dX12_leaves_1 (by decide) ?_
  refine lv_dup2_11 Γ.1.1 Γ.1.2.1 dX12_leaves_2 rfl rfl ?_
  obtain ⟨hb_1, h⟩ := bnd_some h
  refine g_iald Γ hI hqa hb_1 dX12_leaves_3 ?_
  refine lv_iconst (v := (1 : Int32)) Γ.1.1 Γ.1.2.1 dX12_leaves_4 (by decide) ?_
  refine lv_iload_n Γ.1.1 Γ.1.2.1 dX12_leaves_5 rfl (lv_at hl 1 rfl) ?_
  refine lv_ishl Γ.1.1 Γ.1.2.1 dX12_leaves_6 ?_
  refine lv_iconst (v := (-1 : Int32)) Γ.1.1 Γ.1.2.1 dX12_leaves_7 (by decide) ?_
  refine lv_ixor Γ.1.1 Γ.1.2.1 dX12_leaves_8 ?_
  refine lv_iand Γ.1.1 Γ.1.2.1 dX12_leaves_9 ?_
  obtain ⟨hb_2, h⟩ := bnd_some h
  refine g_iast Γ hI hqa hb_2 dX12_leaves_10 (fun H locs hI => ?_)
  obtain ⟨σ_3, e_m_3, h⟩ := nm_some h
  rw [← e_m_3] at hI; clear e_m_3
  refine lv_iconst (v := (0 : Int32)) Γ.1.1 Γ.1.2.1 dX12_leaves_11 (by decide) ?_
  refine lv_istore_n (lv' := [(2, .int (0 : Int32)), (0, .ref (X.2.1 + qa)), (1, .int v1)]) Γ.1.1 Γ.1.2.1 dX12_leaves_12 rfl hl (by decide) rfl (fun ls hl => ?_)
  exact s_X12_leaves_L13 qa hqa σr Γ v1 _ σ_3 (0 : Int32) _ _ _ hI (lv_sub hl [1, 2, 0] rfl) h
set_option maxRecDepth 20000 in
set_option maxHeartbeats 4000000 in
theorem s_X12_thick_L4 {p : Program} {l : Launch} {e : Env} {s : State} {m : MethodId} {args : Array Value} {below : List Frame} {meth : Method} {c : Code} {X : GX} (σ : GM) (x : Int32) (Γ : gC X p m meth c cX12_thick 3 s args RX12 (some .int)) (v1 : Int32) :
    ∀ (k : Nat) (v2 : Int32) (H : Heap) (locs : List Loc) (ls : Array Slot), gI X σ s H locs → lv_has ls 3 [(0, .ref (X.2.1 + 60)), (1, .int v1), (2, .int v2)] → f_X12_thick_L4 σ v1 k v2 = some x →
    W p l e ({ frames := 1, cells := 0, slots := 0, locals := 22 } : Room) s m args below meth c H locs 0 0 (MQ below (gQi X σ x) args s 0 0 (gA X)) (F0 m 4 ls []) := by
  intro k
  induction k with
  | zero =>
    intro v2 H locs ls hI hl h
    exact absurd h (by simp [f_X12_thick_L4])
  | succ k ih =>
    intro v2 H locs ls hI hl h
    unfold f_X12_thick_L4 at h
    refine lv_iload_n Γ.1.1 Γ.1.2.1 dX12_thick_4 rfl (lv_at hl 2 rfl) ?_
    refine lv_bipush (v := (12 : Int32)) Γ.1.1 Γ.1.2.1 dX12_thick_5 (by decide) ?_
    refine lv_icmp_ge (tgt := 31) Γ.1.1 Γ.1.2.1 dX12_thick_7 (by decide) (fun c_2 => ?_) (fun c_2 => ?_)
    · replace h := ite_pos c_2 h; clear c_2
      refine lv_iconst (v := (-1 : Int32)) Γ.1.1 Γ.1.2.1 dX12_thick_31 (by decide) ?_
      exact g_iret Γ hI dX12_thick_32 rfl (Option.some.inj h)
    · replace h := ite_neg c_2 h; clear c_2
      refine lv_aload_n Γ.1.1 Γ.1.2.1 dX12_thick_10 rfl (lv_at hl 0 rfl) ?_
      refine get_X12_now Γ hI gw_244 dX12_thick_11 ?_
      refine lv_iload_n Γ.1.1 Γ.1.2.1 dX12_thick_14 rfl (lv_at hl 1 rfl) ?_
      refine lv_iload_n Γ.1.1 Γ.1.2.1 dX12_thick_15 rfl (lv_at hl 2 rfl) ?_
      obtain ⟨r_3, hr_3, h⟩ := ob_some h
      refine g_ci Γ hI (g_runS (As := [.ref (X.2.1 + 62), .int v1, .int v2]) Γ hI (S_X12_between l X σ 62 sh_62 v1 v2 r_3 hr_3) mf_X12_between gw_232 rfl rfl ⟨Nat.le_of_ble_eq_true rfl, Nat.le_of_ble_eq_true rfl⟩ rfl hl.1 rfl (Nat.le_of_ble_eq_true rfl) dX12_thick_16 ⟨Nat.zero_le _, Nat.zero_le _⟩) (fun H locs hI => ?_)
      clear hr_3
      refine lv_iconst (v := (2 : Int32)) Γ.1.1 Γ.1.2.1 dX12_thick_19 (by decide) ?_
      refine lv_icmp_le (tgt := 25) Γ.1.1 Γ.1.2.1 dX12_thick_20 (by decide) (fun c_5 => ?_) (fun c_5 => ?_)
      · replace h := ite_pos c_5 h; clear c_5
        obtain ⟨v2_6, e_v2_6, h⟩ := nm_some h
        refine lv_iinc (v := v2_6) (lv' := [(2, .int v2_6), (0, .ref (X.2.1 + 60)), (1, .int v1)]) Γ.1.1 Γ.1.2.1 dX12_thick_25 hl (k := 2) rfl (by rw [e_v2_6]; rfl) (by decide) rfl (fun ls hl => ?_)
        clear e_v2_6
        refine lv_goto (tgt := 4) Γ.1.1 Γ.1.2.1 dX12_thick_28 (by decide) ?_
        exact ih v2_6 _ _ _ hI (lv_sub hl [1, 2, 0] rfl) h
      · replace h := ite_neg c_5 h; clear c_5
        refine lv_iload_n Γ.1.1 Γ.1.2.1 dX12_thick_23 rfl (lv_at hl 2 rfl) ?_
        exact g_iret Γ hI dX12_thick_24 rfl (Option.some.inj h)
set_option maxRecDepth 20000 in
set_option maxHeartbeats 4000000 in
theorem S_X12_thick (l : Launch) (X : GX) (σ : GM) (v1 : Int32) (x : Int32) (h : f_X12_thick σ v1 = some x) : gMet l yX12_thick cX12_thick 3 (some .int) ({ frames := 1, cells := 0, slots := 0, locals := 22 } : Room) X σ [.ref (X.2.1 + 60), .int v1] (gQi X σ x) := by
  unfold f_X12_thick at h
  refine gMet_of (lv := [(0, .ref (X.2.1 + 60)), (1, .int v1)]) (by decide) rfl (Nat.le_of_ble_eq_true rfl) rfl (fun p e s m below meth c H ls Γ hI hl => ?_)
  refine lv_iload_n Γ.1.1 Γ.1.2.1 dX12_thick_0 rfl (lv_at hl 1 rfl) ?_
  refine lv_iconst (v := (1 : Int32)) Γ.1.1 Γ.1.2.1 dX12_thick_1 (by decide) ?_
  refine lv_iadd Γ.1.1 Γ.1.2.1 dX12_thick_2 ?_
  refine lv_topi (fun v2_1 e_v2_1 => ?_)
  replace h := nm_at e_v2_1 h; clear e_v2_1
  refine lv_istore_n (lv' := [(2, .int v2_1), (0, .ref (X.2.1 + 60)), (1, .int v1)]) Γ.1.1 Γ.1.2.1 dX12_thick_3 rfl hl (by decide) rfl (fun ls hl => ?_)
  exact s_X12_thick_L4 σ x Γ v1 _ v2_1 _ _ _ hI (lv_sub hl [1, 2, 0] rfl) h
set_option maxRecDepth 20000 in
set_option maxHeartbeats 4000000 in
theorem s_X12_one_L2 {p : Program} {l : Launch} {e : Env} {s : State} {m : MethodId} {args : Array Value} {below : List Frame} {meth : Method} {c : Code} {X : GX} (σ : GM) (x : Int32) (Γ : gC X p m meth c cX12_one 3 s args RX12 (some .int)) (v1 : Int32) :
    ∀ (k : Nat) (v2 : Int32) (H : Heap) (locs : List Loc) (ls : Array Slot), gI X σ s H locs → lv_has ls 3 [(0, .ref (X.2.1 + 60)), (1, .int v1), (2, .int v2)] → f_X12_one_L2 σ v1 k v2 = some x →
    W p l e ({ frames := 1, cells := 0, slots := 0, locals := 22 } : Room) s m args below meth c H locs 0 0 (MQ below (gQi X σ x) args s 0 0 (gA X)) (F0 m 2 ls []) := by
  intro k
  induction k with
  | zero =>
    intro v2 H locs ls hI hl h
    exact absurd h (by simp [f_X12_one_L2])
  | succ k ih =>
    intro v2 H locs ls hI hl h
    unfold f_X12_one_L2 at h
    refine lv_aload_n Γ.1.1 Γ.1.2.1 dX12_one_2 rfl (lv_at hl 0 rfl) ?_
    refine get_X12_now Γ hI gw_244 dX12_one_3 ?_
    refine lv_iload_n Γ.1.1 Γ.1.2.1 dX12_one_6 rfl (lv_at hl 1 rfl) ?_
    refine lv_iload_n Γ.1.1 Γ.1.2.1 dX12_one_7 rfl (lv_at hl 2 rfl) ?_
    obtain ⟨r_1, hr_1, h⟩ := ob_some h
    refine g_ci Γ hI (g_runS (As := [.ref (X.2.1 + 62), .int v1, .int v2]) Γ hI (S_X12_between l X σ 62 sh_62 v1 v2 r_1 hr_1) mf_X12_between gw_232 rfl rfl ⟨Nat.le_of_ble_eq_true rfl, Nat.le_of_ble_eq_true rfl⟩ rfl hl.1 rfl (Nat.le_of_ble_eq_true rfl) dX12_one_8 ⟨Nat.zero_le _, Nat.zero_le _⟩) (fun H locs hI => ?_)
    clear hr_1
    refine lv_if_ne (tgt := 20) Γ.1.1 Γ.1.2.1 dX12_one_11 (by decide) (fun c_3 => ?_) (fun c_3 => ?_)
    · replace h := ite_neg c_3 h; clear c_3
      refine lv_iload_n Γ.1.1 Γ.1.2.1 dX12_one_20 rfl (lv_at hl 2 rfl) ?_
      exact g_iret Γ hI dX12_one_21 rfl (Option.some.inj h)
    · replace h := ite_pos c_3 h; clear c_3
      obtain ⟨v2_4, e_v2_4, h⟩ := nm_some h
      refine lv_iinc (v := v2_4) (lv' := [(2, .int v2_4), (0, .ref (X.2.1 + 60)), (1, .int v1)]) Γ.1.1 Γ.1.2.1 dX12_one_14 hl (k := 2) rfl (by rw [e_v2_4]; rfl) (by decide) rfl (fun ls hl => ?_)
      clear e_v2_4
      refine lv_goto (tgt := 2) Γ.1.1 Γ.1.2.1 dX12_one_17 (by decide) ?_
      exact ih v2_4 _ _ _ hI (lv_sub hl [1, 2, 0] rfl) h
set_option maxRecDepth 20000 in
set_option maxHeartbeats 4000000 in
theorem S_X12_one (l : Launch) (X : GX) (σ : GM) (v1 : Int32) (x : Int32) (h : f_X12_one σ v1 = some x) : gMet l yX12_one cX12_one 3 (some .int) ({ frames := 1, cells := 0, slots := 0, locals := 22 } : Room) X σ [.ref (X.2.1 + 60), .int v1] (gQi X σ x) := by
  unfold f_X12_one at h
  refine gMet_of (lv := [(0, .ref (X.2.1 + 60)), (1, .int v1)]) (by decide) rfl (Nat.le_of_ble_eq_true rfl) rfl (fun p e s m below meth c H ls Γ hI hl => ?_)
  refine lv_iconst (v := (0 : Int32)) Γ.1.1 Γ.1.2.1 dX12_one_0 (by decide) ?_
  refine lv_istore_n (lv' := [(2, .int (0 : Int32)), (0, .ref (X.2.1 + 60)), (1, .int v1)]) Γ.1.1 Γ.1.2.1 dX12_one_1 rfl hl (by decide) rfl (fun ls hl => ?_)
  exact s_X12_one_L2 σ x Γ v1 _ (0 : Int32) _ _ _ hI (lv_sub hl [1, 2, 0] rfl) h
set_option maxRecDepth 20000 in
set_option maxHeartbeats 4000000 in
theorem s_X12_other_L3 {p : Program} {l : Launch} {e : Env} {s : State} {m : MethodId} {args : Array Value} {below : List Frame} {meth : Method} {c : Code} {X : GX} (σ : GM) (x : Int32) (Γ : gC X p m meth c cX12_other 3 s args RX12 (some .int)) (v1 : Int32) :
    ∀ (k : Nat) (v2 : Int32) (H : Heap) (locs : List Loc) (ls : Array Slot), gI X σ s H locs → lv_has ls 3 [(0, .ref (X.2.1 + 60)), (1, .int v1), (2, .int v2)] → f_X12_other_L3 σ v1 k v2 = some x →
    W p l e ({ frames := 1, cells := 0, slots := 0, locals := 22 } : Room) s m args below meth c H locs 0 0 (MQ below (gQi X σ x) args s 0 0 (gA X)) (F0 m 3 ls []) := by
  intro k
  induction k with
  | zero =>
    intro v2 H locs ls hI hl h
    exact absurd h (by simp [f_X12_other_L3])
  | succ k ih =>
    intro v2 H locs ls hI hl h
    unfold f_X12_other_L3 at h
    refine lv_aload_n Γ.1.1 Γ.1.2.1 dX12_other_3 rfl (lv_at hl 0 rfl) ?_
    refine get_X12_now Γ hI gw_244 dX12_other_4 ?_
    refine lv_iload_n Γ.1.1 Γ.1.2.1 dX12_other_7 rfl (lv_at hl 1 rfl) ?_
    refine lv_iload_n Γ.1.1 Γ.1.2.1 dX12_other_8 rfl (lv_at hl 2 rfl) ?_
    obtain ⟨r_1, hr_1, h⟩ := ob_some h
    refine g_ci Γ hI (g_runS (As := [.ref (X.2.1 + 62), .int v1, .int v2]) Γ hI (S_X12_between l X σ 62 sh_62 v1 v2 r_1 hr_1) mf_X12_between gw_232 rfl rfl ⟨Nat.le_of_ble_eq_true rfl, Nat.le_of_ble_eq_true rfl⟩ rfl hl.1 rfl (Nat.le_of_ble_eq_true rfl) dX12_other_9 ⟨Nat.zero_le _, Nat.zero_le _⟩) (fun H locs hI => ?_)
    clear hr_1
    refine lv_if_ne (tgt := 21) Γ.1.1 Γ.1.2.1 dX12_other_12 (by decide) (fun c_3 => ?_) (fun c_3 => ?_)
    · replace h := ite_neg c_3 h; clear c_3
      refine lv_iload_n Γ.1.1 Γ.1.2.1 dX12_other_21 rfl (lv_at hl 2 rfl) ?_
      exact g_iret Γ hI dX12_other_22 rfl (Option.some.inj h)
    · replace h := ite_pos c_3 h; clear c_3
      obtain ⟨v2_4, e_v2_4, h⟩ := nm_some h
      refine lv_iinc (v := v2_4) (lv' := [(2, .int v2_4), (0, .ref (X.2.1 + 60)), (1, .int v1)]) Γ.1.1 Γ.1.2.1 dX12_other_15 hl (k := 2) rfl (by rw [e_v2_4]; rfl) (by decide) rfl (fun ls hl => ?_)
      clear e_v2_4
      refine lv_goto (tgt := 3) Γ.1.1 Γ.1.2.1 dX12_other_18 (by decide) ?_
      exact ih v2_4 _ _ _ hI (lv_sub hl [1, 2, 0] rfl) h
set_option maxRecDepth 20000 in
set_option maxHeartbeats 4000000 in
theorem S_X12_other (l : Launch) (X : GX) (σ : GM) (v1 : Int32) (x : Int32) (h : f_X12_other σ v1 = some x) : gMet l yX12_other cX12_other 3 (some .int) ({ frames := 1, cells := 0, slots := 0, locals := 22 } : Room) X σ [.ref (X.2.1 + 60), .int v1] (gQi X σ x) := by
  unfold f_X12_other at h
  refine gMet_of (lv := [(0, .ref (X.2.1 + 60)), (1, .int v1)]) (by decide) rfl (Nat.le_of_ble_eq_true rfl) rfl (fun p e s m below meth c H ls Γ hI hl => ?_)
  refine lv_bipush (v := (11 : Int32)) Γ.1.1 Γ.1.2.1 dX12_other_0 (by decide) ?_
  refine lv_istore_n (lv' := [(2, .int (11 : Int32)), (0, .ref (X.2.1 + 60)), (1, .int v1)]) Γ.1.1 Γ.1.2.1 dX12_other_2 rfl hl (by decide) rfl (fun ls hl => ?_)
  exact s_X12_other_L3 σ x Γ v1 _ (11 : Int32) _ _ _ hI (lv_sub hl [1, 2, 0] rfl) h
set_option maxRecDepth 20000 in
set_option maxHeartbeats 4000000 in
theorem S_X12_mayStep (l : Launch) (X : GX) (σ : GM) (v1 : Int32) (v2 : Int32) (x : Int32) (h : f_X12_mayStep σ v1 v2 = some x) : gMet l yX12_mayStep cX12_mayStep 3 (some .boolean) ({ frames := 3, cells := 0, slots := 0, locals := 67 } : Room) X σ [.ref (X.2.1 + 60), .int v1, .int v2] (gQi X σ x) := by
  unfold f_X12_mayStep at h
  refine gMet_of (lv := [(0, .ref (X.2.1 + 60)), (1, .int v1), (2, .int v2)]) (by decide) rfl (Nat.le_of_ble_eq_true rfl) rfl (fun p e s m below meth c H ls Γ hI hl => ?_)
  refine lv_iload_n Γ.1.1 Γ.1.2.1 dX12_mayStep_0 rfl (lv_at hl 1 rfl) ?_
  refine lv_if_ne (tgt := 22) Γ.1.1 Γ.1.2.1 dX12_mayStep_1 (by decide) (fun c_1 => ?_) (fun c_1 => ?_)
  · replace h := ite_neg c_1 h; clear c_1
    refine lv_iload_n Γ.1.1 Γ.1.2.1 dX12_mayStep_22 rfl (lv_at hl 1 rfl) ?_
    refine lv_iconst (v := (1 : Int32)) Γ.1.1 Γ.1.2.1 dX12_mayStep_23 (by decide) ?_
    refine lv_icmp_ne (tgt := 45) Γ.1.1 Γ.1.2.1 dX12_mayStep_24 (by decide) (fun c_2 => ?_) (fun c_2 => ?_)
    · replace h := ite_neg c_2 h; clear c_2
      refine lv_iload_n Γ.1.1 Γ.1.2.1 dX12_mayStep_45 rfl (lv_at hl 1 rfl) ?_
      refine lv_iconst (v := (2 : Int32)) Γ.1.1 Γ.1.2.1 dX12_mayStep_46 (by decide) ?_
      refine lv_icmp_ne (tgt := 65) Γ.1.1 Γ.1.2.1 dX12_mayStep_47 (by decide) (fun c_3 => ?_) (fun c_3 => ?_)
      · replace h := ite_neg c_3 h; clear c_3
        refine lv_aload_n Γ.1.1 Γ.1.2.1 dX12_mayStep_65 rfl (lv_at hl 0 rfl) ?_
        refine get_X12_now Γ hI gw_244 dX12_mayStep_66 ?_
        refine lv_iload_n Γ.1.1 Γ.1.2.1 dX12_mayStep_69 rfl (lv_at hl 2 rfl) ?_
        obtain ⟨r_4, hr_4, h⟩ := ob_some h
        refine g_ci Γ hI (g_runS (As := [.ref (X.2.1 + 62), .int v2]) Γ hI (S_X12_allEnds l X σ 62 sh_62 v2 r_4 hr_4) mf_X12_allEnds gw_242 rfl rfl ⟨Nat.le_of_ble_eq_true rfl, Nat.le_of_ble_eq_true rfl⟩ rfl hl.1 rfl (Nat.le_of_ble_eq_true rfl) dX12_mayStep_70 ⟨Nat.zero_le _, Nat.zero_le _⟩) (fun H locs hI => ?_)
        clear hr_4
        refine lv_iconst (v := (2 : Int32)) Γ.1.1 Γ.1.2.1 dX12_mayStep_73 (by decide) ?_
        refine lv_icmp_ne (tgt := 127) Γ.1.1 Γ.1.2.1 dX12_mayStep_74 (by decide) (fun c_6 => ?_) (fun c_6 => ?_)
        · replace h := ite_neg c_6 h; clear c_6
          refine lv_iconst (v := (0 : Int32)) Γ.1.1 Γ.1.2.1 dX12_mayStep_127 (by decide) ?_
          exact g_zret Γ hI dX12_mayStep_128 rfl (Option.some.inj h)
        · replace h := ite_pos c_6 h; clear c_6
          refine lv_aload_n Γ.1.1 Γ.1.2.1 dX12_mayStep_77 rfl (lv_at hl 0 rfl) ?_
          refine get_X12_now Γ hI gw_244 dX12_mayStep_78 ?_
          refine lv_iconst (v := (3 : Int32)) Γ.1.1 Γ.1.2.1 dX12_mayStep_81 (by decide) ?_
          refine lv_iload_n Γ.1.1 Γ.1.2.1 dX12_mayStep_82 rfl (lv_at hl 2 rfl) ?_
          refine lv_iadd Γ.1.1 Γ.1.2.1 dX12_mayStep_83 ?_
          refine lv_topi (fun i_7 e_i_7 => ?_)
          replace h := nm_at e_i_7 h; clear e_i_7
          obtain ⟨hb_8, h⟩ := bnd_some h
          refine g_iald Γ hI sh_62 hb_8 dX12_mayStep_84 ?_
          refine lv_aload_n Γ.1.1 Γ.1.2.1 dX12_mayStep_85 rfl (lv_at hl 0 rfl) ?_
          refine get_X12_now Γ hI gw_244 dX12_mayStep_86 ?_
          refine lv_iconst (v := (3 : Int32)) Γ.1.1 Γ.1.2.1 dX12_mayStep_89 (by decide) ?_
          refine lv_aload_n Γ.1.1 Γ.1.2.1 dX12_mayStep_90 rfl (lv_at hl 0 rfl) ?_
          refine lv_iload_n Γ.1.1 Γ.1.2.1 dX12_mayStep_91 rfl (lv_at hl 2 rfl) ?_
          obtain ⟨r_9, hr_9, h⟩ := ob_some h
          refine g_ci Γ hI (g_runV (As := [.int v2]) Γ hI (S_X12_one l X σ v2 r_9 hr_9) mf_X12_one (recv_X12 Γ hI) gw_287 rfl rfl ⟨Nat.le_of_ble_eq_true rfl, Nat.le_of_ble_eq_true rfl⟩ rfl hl.1 rfl (Nat.le_of_ble_eq_true rfl) dX12_mayStep_92 ⟨Nat.zero_le _, Nat.zero_le _⟩) (fun H locs hI => ?_)
          clear hr_9
          refine lv_iadd Γ.1.1 Γ.1.2.1 dX12_mayStep_95 ?_
          refine lv_topi (fun i_11 e_i_11 => ?_)
          replace h := nm_at e_i_11 h; clear e_i_11
          obtain ⟨hb_12, h⟩ := bnd_some h
          refine g_iald Γ hI sh_62 hb_12 dX12_mayStep_96 ?_
          refine lv_icmp_ge (tgt := 123) Γ.1.1 Γ.1.2.1 dX12_mayStep_97 (by decide) (fun c_13 => ?_) (fun c_13 => ?_)
          · replace h := ite_pos c_13 h; clear c_13
            refine lv_iconst (v := (1 : Int32)) Γ.1.1 Γ.1.2.1 dX12_mayStep_123 (by decide) ?_
            refine lv_goto (tgt := 128) Γ.1.1 Γ.1.2.1 dX12_mayStep_124 (by decide) ?_
            exact g_zret Γ hI dX12_mayStep_128 rfl (Option.some.inj h)
          · replace h := ite_neg c_13 h; clear c_13
            refine lv_aload_n Γ.1.1 Γ.1.2.1 dX12_mayStep_100 rfl (lv_at hl 0 rfl) ?_
            refine get_X12_now Γ hI gw_244 dX12_mayStep_101 ?_
            refine lv_iconst (v := (3 : Int32)) Γ.1.1 Γ.1.2.1 dX12_mayStep_104 (by decide) ?_
            refine lv_iload_n Γ.1.1 Γ.1.2.1 dX12_mayStep_105 rfl (lv_at hl 2 rfl) ?_
            refine lv_iadd Γ.1.1 Γ.1.2.1 dX12_mayStep_106 ?_
            refine lv_topi (fun i_14 e_i_14 => ?_)
            replace h := nm_at e_i_14 h; clear e_i_14
            obtain ⟨hb_15, h⟩ := bnd_some h
            refine g_iald Γ hI sh_62 hb_15 dX12_mayStep_107 ?_
            refine lv_aload_n Γ.1.1 Γ.1.2.1 dX12_mayStep_108 rfl (lv_at hl 0 rfl) ?_
            refine get_X12_now Γ hI gw_244 dX12_mayStep_109 ?_
            refine lv_iconst (v := (3 : Int32)) Γ.1.1 Γ.1.2.1 dX12_mayStep_112 (by decide) ?_
            refine lv_aload_n Γ.1.1 Γ.1.2.1 dX12_mayStep_113 rfl (lv_at hl 0 rfl) ?_
            refine lv_iload_n Γ.1.1 Γ.1.2.1 dX12_mayStep_114 rfl (lv_at hl 2 rfl) ?_
            obtain ⟨r_16, hr_16, h⟩ := ob_some h
            refine g_ci Γ hI (g_runV (As := [.int v2]) Γ hI (S_X12_other l X σ v2 r_16 hr_16) mf_X12_other (recv_X12 Γ hI) gw_288 rfl rfl ⟨Nat.le_of_ble_eq_true rfl, Nat.le_of_ble_eq_true rfl⟩ rfl hl.1 rfl (Nat.le_of_ble_eq_true rfl) dX12_mayStep_115 ⟨Nat.zero_le _, Nat.zero_le _⟩) (fun H locs hI => ?_)
            clear hr_16
            refine lv_iadd Γ.1.1 Γ.1.2.1 dX12_mayStep_118 ?_
            refine lv_topi (fun i_18 e_i_18 => ?_)
            replace h := nm_at e_i_18 h; clear e_i_18
            obtain ⟨hb_19, h⟩ := bnd_some h
            refine g_iald Γ hI sh_62 hb_19 dX12_mayStep_119 ?_
            refine lv_icmp_lt (tgt := 127) Γ.1.1 Γ.1.2.1 dX12_mayStep_120 (by decide) (fun c_20 => ?_) (fun c_20 => ?_)
            · replace h := ite_pos c_20 h; clear c_20
              refine lv_iconst (v := (0 : Int32)) Γ.1.1 Γ.1.2.1 dX12_mayStep_127 (by decide) ?_
              exact g_zret Γ hI dX12_mayStep_128 rfl (Option.some.inj h)
            · replace h := ite_neg c_20 h; clear c_20
              refine lv_iconst (v := (1 : Int32)) Γ.1.1 Γ.1.2.1 dX12_mayStep_123 (by decide) ?_
              refine lv_goto (tgt := 128) Γ.1.1 Γ.1.2.1 dX12_mayStep_124 (by decide) ?_
              exact g_zret Γ hI dX12_mayStep_128 rfl (Option.some.inj h)
      · replace h := ite_pos c_3 h; clear c_3
        refine lv_aload_n Γ.1.1 Γ.1.2.1 dX12_mayStep_50 rfl (lv_at hl 0 rfl) ?_
        refine lv_iload_n Γ.1.1 Γ.1.2.1 dX12_mayStep_51 rfl (lv_at hl 2 rfl) ?_
        obtain ⟨r_21, hr_21, h⟩ := ob_some h
        refine g_ci Γ hI (g_runV (As := [.int v2]) Γ hI (S_X12_thick l X σ v2 r_21 hr_21) mf_X12_thick (recv_X12 Γ hI) gw_289 rfl rfl ⟨Nat.le_of_ble_eq_true rfl, Nat.le_of_ble_eq_true rfl⟩ rfl hl.1 rfl (Nat.le_of_ble_eq_true rfl) dX12_mayStep_52 ⟨Nat.zero_le _, Nat.zero_le _⟩) (fun H locs hI => ?_)
        clear hr_21
        refine lv_iconst (v := (-1 : Int32)) Γ.1.1 Γ.1.2.1 dX12_mayStep_55 (by decide) ?_
        refine lv_icmp_eq (tgt := 63) Γ.1.1 Γ.1.2.1 dX12_mayStep_56 (by decide) (fun c_23 => ?_) (fun c_23 => ?_)
        · replace h := ite_pos c_23 h; clear c_23
          refine lv_iconst (v := (0 : Int32)) Γ.1.1 Γ.1.2.1 dX12_mayStep_63 (by decide) ?_
          exact g_zret Γ hI dX12_mayStep_64 rfl (Option.some.inj h)
        · replace h := ite_neg c_23 h; clear c_23
          refine lv_iconst (v := (1 : Int32)) Γ.1.1 Γ.1.2.1 dX12_mayStep_59 (by decide) ?_
          refine lv_goto (tgt := 64) Γ.1.1 Γ.1.2.1 dX12_mayStep_60 (by decide) ?_
          exact g_zret Γ hI dX12_mayStep_64 rfl (Option.some.inj h)
    · replace h := ite_pos c_2 h; clear c_2
      refine lv_aload_n Γ.1.1 Γ.1.2.1 dX12_mayStep_27 rfl (lv_at hl 0 rfl) ?_
      refine get_X12_now Γ hI gw_244 dX12_mayStep_28 ?_
      refine lv_iload_n Γ.1.1 Γ.1.2.1 dX12_mayStep_31 rfl (lv_at hl 2 rfl) ?_
      obtain ⟨r_24, hr_24, h⟩ := ob_some h
      refine g_ci Γ hI (g_runS (As := [.ref (X.2.1 + 62), .int v2]) Γ hI (S_X12_allEnds l X σ 62 sh_62 v2 r_24 hr_24) mf_X12_allEnds gw_242 rfl rfl ⟨Nat.le_of_ble_eq_true rfl, Nat.le_of_ble_eq_true rfl⟩ rfl hl.1 rfl (Nat.le_of_ble_eq_true rfl) dX12_mayStep_32 ⟨Nat.zero_le _, Nat.zero_le _⟩) (fun H locs hI => ?_)
      clear hr_24
      refine lv_iconst (v := (2 : Int32)) Γ.1.1 Γ.1.2.1 dX12_mayStep_35 (by decide) ?_
      refine lv_icmp_ge (tgt := 43) Γ.1.1 Γ.1.2.1 dX12_mayStep_36 (by decide) (fun c_26 => ?_) (fun c_26 => ?_)
      · replace h := ite_pos c_26 h; clear c_26
        refine lv_iconst (v := (0 : Int32)) Γ.1.1 Γ.1.2.1 dX12_mayStep_43 (by decide) ?_
        exact g_zret Γ hI dX12_mayStep_44 rfl (Option.some.inj h)
      · replace h := ite_neg c_26 h; clear c_26
        refine lv_iconst (v := (1 : Int32)) Γ.1.1 Γ.1.2.1 dX12_mayStep_39 (by decide) ?_
        refine lv_goto (tgt := 44) Γ.1.1 Γ.1.2.1 dX12_mayStep_40 (by decide) ?_
        exact g_zret Γ hI dX12_mayStep_44 rfl (Option.some.inj h)
  · replace h := ite_pos c_1 h; clear c_1
    refine lv_aload_n Γ.1.1 Γ.1.2.1 dX12_mayStep_4 rfl (lv_at hl 0 rfl) ?_
    refine get_X12_now Γ hI gw_244 dX12_mayStep_5 ?_
    refine lv_iload_n Γ.1.1 Γ.1.2.1 dX12_mayStep_8 rfl (lv_at hl 2 rfl) ?_
    refine lv_iload_n Γ.1.1 Γ.1.2.1 dX12_mayStep_9 rfl (lv_at hl 2 rfl) ?_
    obtain ⟨r_27, hr_27, h⟩ := ob_some h
    refine g_ci Γ hI (g_runS (As := [.ref (X.2.1 + 62), .int v2, .int v2]) Γ hI (S_X12_between l X σ 62 sh_62 v2 v2 r_27 hr_27) mf_X12_between gw_232 rfl rfl ⟨Nat.le_of_ble_eq_true rfl, Nat.le_of_ble_eq_true rfl⟩ rfl hl.1 rfl (Nat.le_of_ble_eq_true rfl) dX12_mayStep_10 ⟨Nat.zero_le _, Nat.zero_le _⟩) (fun H locs hI => ?_)
    clear hr_27
    refine lv_if_le (tgt := 20) Γ.1.1 Γ.1.2.1 dX12_mayStep_13 (by decide) (fun c_29 => ?_) (fun c_29 => ?_)
    · replace h := ite_pos c_29 h; clear c_29
      refine lv_iconst (v := (0 : Int32)) Γ.1.1 Γ.1.2.1 dX12_mayStep_20 (by decide) ?_
      exact g_zret Γ hI dX12_mayStep_21 rfl (Option.some.inj h)
    · replace h := ite_neg c_29 h; clear c_29
      refine lv_iconst (v := (1 : Int32)) Γ.1.1 Γ.1.2.1 dX12_mayStep_16 (by decide) ?_
      refine lv_goto (tgt := 21) Γ.1.1 Γ.1.2.1 dX12_mayStep_17 (by decide) ?_
      exact g_zret Γ hI dX12_mayStep_21 rfl (Option.some.inj h)
set_option maxRecDepth 20000 in
set_option maxHeartbeats 4000000 in
theorem s_X12_first_L2 {p : Program} {l : Launch} {e : Env} {s : State} {m : MethodId} {args : Array Value} {below : List Frame} {meth : Method} {c : Code} {X : GX} (σ : GM) (x : Int32) (Γ : gC X p m meth c cX12_first 3 s args RX12 (some .int)) (v1 : Int32) :
    ∀ (k : Nat) (v2 : Int32) (H : Heap) (locs : List Loc) (ls : Array Slot), gI X σ s H locs → lv_has ls 3 [(0, .ref (X.2.1 + 60)), (1, .int v1), (2, .int v2)] → f_X12_first_L2 σ v1 k v2 = some x →
    W p l e ({ frames := 4, cells := 0, slots := 0, locals := 89 } : Room) s m args below meth c H locs 0 0 (MQ below (gQi X σ x) args s 0 0 (gA X)) (F0 m 2 ls []) := by
  intro k
  induction k with
  | zero =>
    intro v2 H locs ls hI hl h
    exact absurd h (by simp [f_X12_first_L2])
  | succ k ih =>
    intro v2 H locs ls hI hl h
    unfold f_X12_first_L2 at h
    refine lv_iload_n Γ.1.1 Γ.1.2.1 dX12_first_2 rfl (lv_at hl 2 rfl) ?_
    refine lv_bipush (v := (12 : Int32)) Γ.1.1 Γ.1.2.1 dX12_first_3 (by decide) ?_
    refine lv_icmp_ge (tgt := 33) Γ.1.1 Γ.1.2.1 dX12_first_5 (by decide) (fun c_1 => ?_) (fun c_1 => ?_)
    · replace h := ite_pos c_1 h; clear c_1
      refine lv_iconst (v := (-1 : Int32)) Γ.1.1 Γ.1.2.1 dX12_first_33 (by decide) ?_
      exact g_iret Γ hI dX12_first_34 rfl (Option.some.inj h)
    · replace h := ite_neg c_1 h; clear c_1
      refine lv_aload_n Γ.1.1 Γ.1.2.1 dX12_first_8 rfl (lv_at hl 0 rfl) ?_
      refine lv_iload_n Γ.1.1 Γ.1.2.1 dX12_first_9 rfl (lv_at hl 2 rfl) ?_
      obtain ⟨r_2, hr_2, h⟩ := ob_some h
      refine g_ci Γ hI (g_runV (As := [.int v2]) Γ hI (S_X12_isThere l X σ v2 r_2 hr_2) mf_X12_isThere (recv_X12 Γ hI) gw_255 rfl rfl ⟨Nat.le_of_ble_eq_true rfl, Nat.le_of_ble_eq_true rfl⟩ rfl hl.1 rfl (Nat.le_of_ble_eq_true rfl) dX12_first_10 ⟨Nat.zero_le _, Nat.zero_le _⟩) (fun H locs hI => ?_)
      clear hr_2
      refine lv_if_eq (tgt := 27) Γ.1.1 Γ.1.2.1 dX12_first_13 (by decide) (fun c_4 => ?_) (fun c_4 => ?_)
      · replace h := ite_pos c_4 h; clear c_4
        obtain ⟨v2_5, e_v2_5, h⟩ := nm_some h
        refine lv_iinc (v := v2_5) (lv' := [(2, .int v2_5), (0, .ref (X.2.1 + 60)), (1, .int v1)]) Γ.1.1 Γ.1.2.1 dX12_first_27 hl (k := 2) rfl (by rw [e_v2_5]; rfl) (by decide) rfl (fun ls hl => ?_)
        clear e_v2_5
        refine lv_goto (tgt := 2) Γ.1.1 Γ.1.2.1 dX12_first_30 (by decide) ?_
        exact ih v2_5 _ _ _ hI (lv_sub hl [1, 2, 0] rfl) h
      · replace h := ite_neg c_4 h; clear c_4
        refine lv_aload_n Γ.1.1 Γ.1.2.1 dX12_first_16 rfl (lv_at hl 0 rfl) ?_
        refine lv_iload_n Γ.1.1 Γ.1.2.1 dX12_first_17 rfl (lv_at hl 1 rfl) ?_
        refine lv_iload_n Γ.1.1 Γ.1.2.1 dX12_first_18 rfl (lv_at hl 2 rfl) ?_
        obtain ⟨r_6, hr_6, h⟩ := ob_some h
        refine g_ci Γ hI (g_runV (As := [.int v1, .int v2]) Γ hI (S_X12_mayStep l X σ v1 v2 r_6 hr_6) mf_X12_mayStep (recv_X12 Γ hI) gw_290 rfl rfl ⟨Nat.le_of_ble_eq_true rfl, Nat.le_of_ble_eq_true rfl⟩ rfl hl.1 rfl (Nat.le_of_ble_eq_true rfl) dX12_first_19 ⟨Nat.zero_le _, Nat.zero_le _⟩) (fun H locs hI => ?_)
        clear hr_6
        refine lv_if_eq (tgt := 27) Γ.1.1 Γ.1.2.1 dX12_first_22 (by decide) (fun c_8 => ?_) (fun c_8 => ?_)
        · replace h := ite_pos c_8 h; clear c_8
          obtain ⟨v2_9, e_v2_9, h⟩ := nm_some h
          refine lv_iinc (v := v2_9) (lv' := [(2, .int v2_9), (0, .ref (X.2.1 + 60)), (1, .int v1)]) Γ.1.1 Γ.1.2.1 dX12_first_27 hl (k := 2) rfl (by rw [e_v2_9]; rfl) (by decide) rfl (fun ls hl => ?_)
          clear e_v2_9
          refine lv_goto (tgt := 2) Γ.1.1 Γ.1.2.1 dX12_first_30 (by decide) ?_
          exact ih v2_9 _ _ _ hI (lv_sub hl [1, 2, 0] rfl) h
        · replace h := ite_neg c_8 h; clear c_8
          refine lv_iload_n Γ.1.1 Γ.1.2.1 dX12_first_25 rfl (lv_at hl 2 rfl) ?_
          exact g_iret Γ hI dX12_first_26 rfl (Option.some.inj h)
set_option maxRecDepth 20000 in
set_option maxHeartbeats 4000000 in
theorem S_X12_first (l : Launch) (X : GX) (σ : GM) (v1 : Int32) (x : Int32) (h : f_X12_first σ v1 = some x) : gMet l yX12_first cX12_first 3 (some .int) ({ frames := 4, cells := 0, slots := 0, locals := 89 } : Room) X σ [.ref (X.2.1 + 60), .int v1] (gQi X σ x) := by
  unfold f_X12_first at h
  refine gMet_of (lv := [(0, .ref (X.2.1 + 60)), (1, .int v1)]) (by decide) rfl (Nat.le_of_ble_eq_true rfl) rfl (fun p e s m below meth c H ls Γ hI hl => ?_)
  refine lv_iconst (v := (0 : Int32)) Γ.1.1 Γ.1.2.1 dX12_first_0 (by decide) ?_
  refine lv_istore_n (lv' := [(2, .int (0 : Int32)), (0, .ref (X.2.1 + 60)), (1, .int v1)]) Γ.1.1 Γ.1.2.1 dX12_first_1 rfl hl (by decide) rfl (fun ls hl => ?_)
  exact s_X12_first_L2 σ x Γ v1 _ (0 : Int32) _ _ _ hI (lv_sub hl [1, 2, 0] rfl) h
set_option maxRecDepth 20000 in
set_option maxHeartbeats 4000000 in
theorem s_X12_steps_L128 {p : Program} {l : Launch} {e : Env} {s : State} {m : MethodId} {args : Array Value} {below : List Frame} {meth : Method} {c : Code} {X : GX} (σr : GM) (x : Int32) (Γ : gC X p m meth c cX12_steps 5 s args RX12 (some .int)) :
    ∀ (σ : GM) (v1 : Int32) (v2 : Int32) (H : Heap) (locs : List Loc) (ls : Array Slot), gI X σ s H locs → lv_has ls 5 [(1, .int v1), (2, .int v2)] → f_X12_steps_L128 σ v1 v2 = some (σr, x) →
    W p l e ({ frames := 5, cells := 0, slots := 0, locals := 111 } : Room) s m args below meth c H locs 0 0 (MQ below (gQi X σr x) args s 0 0 (gA X)) (F0 m 128 ls []) := by
  intro σ v1 v2 H locs ls hI hl h
  unfold f_X12_steps_L128 at h
  refine lv_bipush (v := (16 : Int32)) Γ.1.1 Γ.1.2.1 dX12_steps_128 (by decide) ?_
  refine lv_iload_n Γ.1.1 Γ.1.2.1 dX12_steps_130 rfl (lv_at hl 0 rfl) ?_
  refine lv_imul Γ.1.1 Γ.1.2.1 dX12_steps_131 ?_
  refine lv_iload_n Γ.1.1 Γ.1.2.1 dX12_steps_132 rfl (lv_at hl 1 rfl) ?_
  refine lv_iadd Γ.1.1 Γ.1.2.1 dX12_steps_133 ?_
  exact g_iret Γ hI dX12_steps_134 (Prod.mk.inj (Option.some.inj h)).1 (Prod.mk.inj (Option.some.inj h)).2
set_option maxRecDepth 20000 in
set_option maxHeartbeats 4000000 in
theorem s_X12_steps_L102 {p : Program} {l : Launch} {e : Env} {s : State} {m : MethodId} {args : Array Value} {below : List Frame} {meth : Method} {c : Code} {X : GX} (σr : GM) (x : Int32) (Γ : gC X p m meth c cX12_steps 5 s args RX12 (some .int)) :
    ∀ (σ : GM) (v1 : Int32) (v2 : Int32) (v3 : Int32) (s0 : Int32) (H : Heap) (locs : List Loc) (ls : Array Slot), gI X σ s H locs → lv_has ls 5 [(0, .ref (X.2.1 + 60)), (1, .int v1), (2, .int v2), (3, .int v3)] → f_X12_steps_L102 σ v1 v2 v3 s0 = some (σr, x) →
    W p l e ({ frames := 5, cells := 0, slots := 0, locals := 111 } : Room) s m args below meth c H locs 0 0 (MQ below (gQi X σr x) args s 0 0 (gA X)) (F0 m 102 ls [.int s0]) := by
  intro σ v1 v2 v3 s0 H locs ls hI hl h
  unfold f_X12_steps_L102 at h
  refine lv_istore (lv' := [(4, .int s0), (0, .ref (X.2.1 + 60)), (1, .int v1), (2, .int v2), (3, .int v3)]) Γ.1.1 Γ.1.2.1 dX12_steps_102 hl (by decide) rfl (fun ls hl => ?_)
  refine lv_aload_n Γ.1.1 Γ.1.2.1 dX12_steps_104 rfl (lv_at hl 1 rfl) ?_
  refine get_X12_now Γ hI gw_244 dX12_steps_105 ?_
  refine lv_iload_n Γ.1.1 Γ.1.2.1 dX12_steps_108 rfl (lv_at hl 3 rfl) ?_
  obtain ⟨σ_10, hr_9, h⟩ := ob_some h
  refine g_cv Γ hI (g_runS (As := [.ref (X.2.1 + 62), .int v2]) Γ hI (S_X12_leaves l X σ 62 sh_62 v2 σ_10 hr_9) mf_X12_leaves gw_292 rfl rfl ⟨Nat.le_of_ble_eq_true rfl, Nat.le_of_ble_eq_true rfl⟩ rfl hl.1 rfl (Nat.le_of_ble_eq_true rfl) dX12_steps_109 ⟨Nat.zero_le _, Nat.zero_le _⟩) (fun H locs hI => ?_)
  clear hr_9
  refine lv_iload_n Γ.1.1 Γ.1.2.1 dX12_steps_112 rfl (lv_at hl 2 rfl) ?_
  refine lv_iconst (v := (3 : Int32)) Γ.1.1 Γ.1.2.1 dX12_steps_113 (by decide) ?_
  refine lv_icmp_ne (tgt := 128) Γ.1.1 Γ.1.2.1 dX12_steps_114 (by decide) (fun c_11 => ?_) (fun c_11 => ?_)
  · replace h := ite_neg c_11 h; clear c_11
    exact s_X12_steps_L128 σr x Γ σ_10 v1 v2 _ _ _ hI (lv_sub hl [2, 3] rfl) h
  · replace h := ite_pos c_11 h; clear c_11
    refine lv_aload_n Γ.1.1 Γ.1.2.1 dX12_steps_117 rfl (lv_at hl 1 rfl) ?_
    refine get_X12_now Γ hI gw_244 dX12_steps_118 ?_
    refine lv_iload_n Γ.1.1 Γ.1.2.1 dX12_steps_121 rfl (lv_at hl 4 rfl) ?_
    refine lv_iload Γ.1.1 Γ.1.2.1 dX12_steps_122 (lv_at hl 0 rfl) ?_
    refine lv_iconst (v := (1 : Int32)) Γ.1.1 Γ.1.2.1 dX12_steps_124 (by decide) ?_
    obtain ⟨σ_13, hr_12, h⟩ := ob_some h
    refine g_cv Γ hI (g_runS (As := [.ref (X.2.1 + 62), .int v3, .int s0, .int (1 : Int32)]) Γ hI (S_X12_adds l X σ_10 62 sh_62 v3 s0 (1 : Int32) σ_13 hr_12) mf_X12_adds gw_243 rfl rfl ⟨Nat.le_of_ble_eq_true rfl, Nat.le_of_ble_eq_true rfl⟩ rfl hl.1 rfl (Nat.le_of_ble_eq_true rfl) dX12_steps_125 ⟨Nat.zero_le _, Nat.zero_le _⟩) (fun H locs hI => ?_)
    clear hr_12
    exact s_X12_steps_L128 σr x Γ σ_13 v1 v2 _ _ _ hI (lv_sub hl [2, 3] rfl) h
set_option maxRecDepth 20000 in
set_option maxHeartbeats 4000000 in
theorem s_X12_steps_L87 {p : Program} {l : Launch} {e : Env} {s : State} {m : MethodId} {args : Array Value} {below : List Frame} {meth : Method} {c : Code} {X : GX} (σr : GM) (x : Int32) (Γ : gC X p m meth c cX12_steps 5 s args RX12 (some .int)) :
    ∀ (σ : GM) (v1 : Int32) (v2 : Int32) (s0 : Int32) (H : Heap) (locs : List Loc) (ls : Array Slot), gI X σ s H locs → lv_has ls 5 [(0, .ref (X.2.1 + 60)), (1, .int v1), (2, .int v2)] → f_X12_steps_L87 σ v1 v2 s0 = some (σr, x) →
    W p l e ({ frames := 5, cells := 0, slots := 0, locals := 111 } : Room) s m args below meth c H locs 0 0 (MQ below (gQi X σr x) args s 0 0 (gA X)) (F0 m 87 ls [.int s0]) := by
  intro σ v1 v2 s0 H locs ls hI hl h
  unfold f_X12_steps_L87 at h
  refine lv_istore_n (lv' := [(3, .int s0), (0, .ref (X.2.1 + 60)), (1, .int v1), (2, .int v2)]) Γ.1.1 Γ.1.2.1 dX12_steps_87 rfl hl (by decide) rfl (fun ls hl => ?_)
  refine lv_iload_n Γ.1.1 Γ.1.2.1 dX12_steps_88 rfl (lv_at hl 2 rfl) ?_
  refine lv_iconst (v := (3 : Int32)) Γ.1.1 Γ.1.2.1 dX12_steps_89 (by decide) ?_
  refine lv_icmp_ne (tgt := 101) Γ.1.1 Γ.1.2.1 dX12_steps_90 (by decide) (fun c_8 => ?_) (fun c_8 => ?_)
  · replace h := ite_neg c_8 h; clear c_8
    refine lv_iconst (v := (0 : Int32)) Γ.1.1 Γ.1.2.1 dX12_steps_101 (by decide) ?_
    exact s_X12_steps_L102 σr x Γ σ v1 v2 s0 (0 : Int32) _ _ _ hI (lv_sub hl [1, 2, 3, 0] rfl) h
  · replace h := ite_pos c_8 h; clear c_8
    refine lv_aload_n Γ.1.1 Γ.1.2.1 dX12_steps_93 rfl (lv_at hl 1 rfl) ?_
    refine lv_iload_n Γ.1.1 Γ.1.2.1 dX12_steps_94 rfl (lv_at hl 3 rfl) ?_
    obtain ⟨r_14, hr_14, h⟩ := ob_some h
    refine g_ci Γ hI (g_runV (As := [.int v2]) Γ hI (S_X12_other l X σ v2 r_14 hr_14) mf_X12_other (recv_X12 Γ hI) gw_288 rfl rfl ⟨Nat.le_of_ble_eq_true rfl, Nat.le_of_ble_eq_true rfl⟩ rfl hl.1 rfl (Nat.le_of_ble_eq_true rfl) dX12_steps_95 ⟨Nat.zero_le _, Nat.zero_le _⟩) (fun H locs hI => ?_)
    clear hr_14
    refine lv_goto (tgt := 102) Γ.1.1 Γ.1.2.1 dX12_steps_98 (by decide) ?_
    exact s_X12_steps_L102 σr x Γ σ v1 v2 s0 r_14 _ _ _ hI (lv_sub hl [1, 2, 3, 0] rfl) h
set_option maxRecDepth 20000 in
set_option maxHeartbeats 4000000 in
theorem s_X12_steps_L37 {p : Program} {l : Launch} {e : Env} {s : State} {m : MethodId} {args : Array Value} {below : List Frame} {meth : Method} {c : Code} {X : GX} (σr : GM) (x : Int32) (Γ : gC X p m meth c cX12_steps 5 s args RX12 (some .int)) :
    ∀ (σ : GM) (v1 : Int32) (v2 : Int32) (H : Heap) (locs : List Loc) (ls : Array Slot), gI X σ s H locs → lv_has ls 5 [(0, .ref (X.2.1 + 60)), (1, .int v1), (2, .int v2)] → f_X12_steps_L37 σ v1 v2 = some (σr, x) →
    W p l e ({ frames := 5, cells := 0, slots := 0, locals := 111 } : Room) s m args below meth c H locs 0 0 (MQ below (gQi X σr x) args s 0 0 (gA X)) (F0 m 37 ls []) := by
  intro σ v1 v2 H locs ls hI hl h
  unfold f_X12_steps_L37 at h
  refine lv_iload_n Γ.1.1 Γ.1.2.1 dX12_steps_37 rfl (lv_at hl 1 rfl) ?_
  refine lv_iconst (v := (2 : Int32)) Γ.1.1 Γ.1.2.1 dX12_steps_38 (by decide) ?_
  refine lv_icmp_ne (tgt := 73) Γ.1.1 Γ.1.2.1 dX12_steps_39 (by decide) (fun c_6 => ?_) (fun c_6 => ?_)
  · replace h := ite_neg c_6 h; clear c_6
    refine lv_iload_n Γ.1.1 Γ.1.2.1 dX12_steps_73 rfl (lv_at hl 1 rfl) ?_
    refine lv_iconst (v := (3 : Int32)) Γ.1.1 Γ.1.2.1 dX12_steps_74 (by decide) ?_
    refine lv_icmp_ne (tgt := 86) Γ.1.1 Γ.1.2.1 dX12_steps_75 (by decide) (fun c_7 => ?_) (fun c_7 => ?_)
    · replace h := ite_neg c_7 h; clear c_7
      refine lv_iconst (v := (0 : Int32)) Γ.1.1 Γ.1.2.1 dX12_steps_86 (by decide) ?_
      exact s_X12_steps_L87 σr x Γ σ v1 v2 (0 : Int32) _ _ _ hI hl h
    · replace h := ite_pos c_7 h; clear c_7
      refine lv_aload_n Γ.1.1 Γ.1.2.1 dX12_steps_78 rfl (lv_at hl 0 rfl) ?_
      refine lv_iload_n Γ.1.1 Γ.1.2.1 dX12_steps_79 rfl (lv_at hl 2 rfl) ?_
      obtain ⟨r_16, hr_16, h⟩ := ob_some h
      refine g_ci Γ hI (g_runV (As := [.int v2]) Γ hI (S_X12_one l X σ v2 r_16 hr_16) mf_X12_one (recv_X12 Γ hI) gw_287 rfl rfl ⟨Nat.le_of_ble_eq_true rfl, Nat.le_of_ble_eq_true rfl⟩ rfl hl.1 rfl (Nat.le_of_ble_eq_true rfl) dX12_steps_80 ⟨Nat.zero_le _, Nat.zero_le _⟩) (fun H locs hI => ?_)
      clear hr_16
      refine lv_goto (tgt := 87) Γ.1.1 Γ.1.2.1 dX12_steps_83 (by decide) ?_
      exact s_X12_steps_L87 σr x Γ σ v1 v2 r_16 _ _ _ hI hl h
  · replace h := ite_pos c_6 h; clear c_6
    refine lv_aload_n Γ.1.1 Γ.1.2.1 dX12_steps_42 rfl (lv_at hl 0 rfl) ?_
    refine lv_iload_n Γ.1.1 Γ.1.2.1 dX12_steps_43 rfl (lv_at hl 2 rfl) ?_
    obtain ⟨r_18, hr_18, h⟩ := ob_some h
    refine g_ci Γ hI (g_runV (As := [.int v2]) Γ hI (S_X12_thick l X σ v2 r_18 hr_18) mf_X12_thick (recv_X12 Γ hI) gw_289 rfl rfl ⟨Nat.le_of_ble_eq_true rfl, Nat.le_of_ble_eq_true rfl⟩ rfl hl.1 rfl (Nat.le_of_ble_eq_true rfl) dX12_steps_44 ⟨Nat.zero_le _, Nat.zero_le _⟩) (fun H locs hI => ?_)
    clear hr_18
    refine lv_istore_n (lv' := [(3, .int r_18), (0, .ref (X.2.1 + 60)), (1, .int v1), (2, .int v2)]) Γ.1.1 Γ.1.2.1 dX12_steps_47 rfl hl (by decide) rfl (fun ls hl => ?_)
    refine lv_aload_n Γ.1.1 Γ.1.2.1 dX12_steps_48 rfl (lv_at hl 1 rfl) ?_
    refine get_X12_now Γ hI gw_244 dX12_steps_49 ?_
    refine lv_iload_n Γ.1.1 Γ.1.2.1 dX12_steps_52 rfl (lv_at hl 3 rfl) ?_
    refine lv_iload_n Γ.1.1 Γ.1.2.1 dX12_steps_53 rfl (lv_at hl 0 rfl) ?_
    refine lv_iconst (v := (2 : Int32)) Γ.1.1 Γ.1.2.1 dX12_steps_54 (by decide) ?_
    refine lv_aload_n Γ.1.1 Γ.1.2.1 dX12_steps_55 rfl (lv_at hl 1 rfl) ?_
    refine get_X12_now Γ hI gw_244 dX12_steps_56 ?_
    refine lv_iload_n Γ.1.1 Γ.1.2.1 dX12_steps_59 rfl (lv_at hl 3 rfl) ?_
    refine lv_iload_n Γ.1.1 Γ.1.2.1 dX12_steps_60 rfl (lv_at hl 0 rfl) ?_
    obtain ⟨r_20, hr_20, h⟩ := ob_some h
    refine g_ci Γ hI (g_runS (As := [.ref (X.2.1 + 62), .int v2, .int r_18]) Γ hI (S_X12_between l X σ 62 sh_62 v2 r_18 r_20 hr_20) mf_X12_between gw_232 rfl rfl ⟨Nat.le_of_ble_eq_true rfl, Nat.le_of_ble_eq_true rfl⟩ rfl hl.1 rfl (Nat.le_of_ble_eq_true rfl) dX12_steps_61 ⟨Nat.zero_le _, Nat.zero_le _⟩) (fun H locs hI => ?_)
    clear hr_20
    refine lv_isub Γ.1.1 Γ.1.2.1 dX12_steps_64 ?_
    obtain ⟨σ_23, hr_22, h⟩ := ob_some h
    refine g_cv Γ hI (g_runS (As := [.ref (X.2.1 + 62), .int v2, .int r_18, .int ((2 : Int32) - r_20)]) Γ hI (S_X12_adds l X σ 62 sh_62 v2 r_18 ((2 : Int32) - r_20) σ_23 hr_22) mf_X12_adds gw_243 rfl rfl ⟨Nat.le_of_ble_eq_true rfl, Nat.le_of_ble_eq_true rfl⟩ rfl hl.1 rfl (Nat.le_of_ble_eq_true rfl) dX12_steps_65 ⟨Nat.zero_le _, Nat.zero_le _⟩) (fun H locs hI => ?_)
    clear hr_22
    refine lv_bipush (v := (32 : Int32)) Γ.1.1 Γ.1.2.1 dX12_steps_68 (by decide) ?_
    refine lv_iload_n Γ.1.1 Γ.1.2.1 dX12_steps_70 rfl (lv_at hl 3 rfl) ?_
    refine lv_iadd Γ.1.1 Γ.1.2.1 dX12_steps_71 ?_
    exact g_iret Γ hI dX12_steps_72 (Prod.mk.inj (Option.some.inj h)).1 (Prod.mk.inj (Option.some.inj h)).2
set_option maxRecDepth 20000 in
set_option maxHeartbeats 4000000 in
theorem s_X12_steps_L21 {p : Program} {l : Launch} {e : Env} {s : State} {m : MethodId} {args : Array Value} {below : List Frame} {meth : Method} {c : Code} {X : GX} (σr : GM) (x : Int32) (Γ : gC X p m meth c cX12_steps 5 s args RX12 (some .int)) :
    ∀ (σ : GM) (v1 : Int32) (v2 : Int32) (H : Heap) (locs : List Loc) (ls : Array Slot), gI X σ s H locs → lv_has ls 5 [(0, .ref (X.2.1 + 60)), (1, .int v1), (2, .int v2)] → f_X12_steps_L21 σ v1 v2 = some (σr, x) →
    W p l e ({ frames := 5, cells := 0, slots := 0, locals := 111 } : Room) s m args below meth c H locs 0 0 (MQ below (gQi X σr x) args s 0 0 (gA X)) (F0 m 21 ls []) := by
  intro σ v1 v2 H locs ls hI hl h
  unfold f_X12_steps_L21 at h
  refine lv_iload_n Γ.1.1 Γ.1.2.1 dX12_steps_21 rfl (lv_at hl 1 rfl) ?_
  refine lv_if_ne (tgt := 37) Γ.1.1 Γ.1.2.1 dX12_steps_22 (by decide) (fun c_5 => ?_) (fun c_5 => ?_)
  · replace h := ite_neg c_5 h; clear c_5
    exact s_X12_steps_L37 σr x Γ σ v1 v2 _ _ _ hI hl h
  · replace h := ite_pos c_5 h; clear c_5
    refine lv_aload_n Γ.1.1 Γ.1.2.1 dX12_steps_25 rfl (lv_at hl 0 rfl) ?_
    refine get_X12_now Γ hI gw_244 dX12_steps_26 ?_
    refine lv_iconst (v := (2 : Int32)) Γ.1.1 Γ.1.2.1 dX12_steps_29 (by decide) ?_
    refine lv_dup2_11 Γ.1.1 Γ.1.2.1 dX12_steps_30 rfl rfl ?_
    obtain ⟨hb_24, h⟩ := bnd_some h
    refine g_iald Γ hI sh_62 hb_24 dX12_steps_31 ?_
    refine lv_iconst (v := (1 : Int32)) Γ.1.1 Γ.1.2.1 dX12_steps_32 (by decide) ?_
    refine lv_iload_n Γ.1.1 Γ.1.2.1 dX12_steps_33 rfl (lv_at hl 2 rfl) ?_
    refine lv_ishl Γ.1.1 Γ.1.2.1 dX12_steps_34 ?_
    refine lv_ior Γ.1.1 Γ.1.2.1 dX12_steps_35 ?_
    obtain ⟨hb_25, h⟩ := bnd_some h
    refine g_iast Γ hI sh_62 hb_25 dX12_steps_36 (fun H locs hI => ?_)
    obtain ⟨σ_26, e_m_26, h⟩ := nm_some h
    rw [← e_m_26] at hI; clear e_m_26
    exact s_X12_steps_L37 σr x Γ σ_26 v1 v2 _ _ _ hI hl h
set_option maxRecDepth 20000 in
set_option maxHeartbeats 4000000 in
theorem s_X12_steps_L2 {p : Program} {l : Launch} {e : Env} {s : State} {m : MethodId} {args : Array Value} {below : List Frame} {meth : Method} {c : Code} {X : GX} (σr : GM) (x : Int32) (Γ : gC X p m meth c cX12_steps 5 s args RX12 (some .int)) :
    ∀ (k : Nat) (σ : GM) (v1 : Int32) (H : Heap) (locs : List Loc) (ls : Array Slot), gI X σ s H locs → lv_has ls 5 [(0, .ref (X.2.1 + 60)), (1, .int v1)] → f_X12_steps_L2 k σ v1 = some (σr, x) →
    W p l e ({ frames := 5, cells := 0, slots := 0, locals := 111 } : Room) s m args below meth c H locs 0 0 (MQ below (gQi X σr x) args s 0 0 (gA X)) (F0 m 2 ls []) := by
  intro k
  induction k with
  | zero =>
    intro σ v1 H locs ls hI hl h
    exact absurd h (by simp [f_X12_steps_L2])
  | succ k ih =>
    intro σ v1 H locs ls hI hl h
    unfold f_X12_steps_L2 at h
    refine lv_iload_n Γ.1.1 Γ.1.2.1 dX12_steps_2 rfl (lv_at hl 1 rfl) ?_
    refine lv_iconst (v := (4 : Int32)) Γ.1.1 Γ.1.2.1 dX12_steps_3 (by decide) ?_
    refine lv_icmp_ge (tgt := 141) Γ.1.1 Γ.1.2.1 dX12_steps_4 (by decide) (fun c_1 => ?_) (fun c_1 => ?_)
    · replace h := ite_pos c_1 h; clear c_1
      refine lv_iconst (v := (-1 : Int32)) Γ.1.1 Γ.1.2.1 dX12_steps_141 (by decide) ?_
      exact g_iret Γ hI dX12_steps_142 (Prod.mk.inj (Option.some.inj h)).1 (Prod.mk.inj (Option.some.inj h)).2
    · replace h := ite_neg c_1 h; clear c_1
      refine lv_aload_n Γ.1.1 Γ.1.2.1 dX12_steps_7 rfl (lv_at hl 0 rfl) ?_
      refine lv_iload_n Γ.1.1 Γ.1.2.1 dX12_steps_8 rfl (lv_at hl 1 rfl) ?_
      obtain ⟨r_2, hr_2, h⟩ := ob_some h
      refine g_ci Γ hI (g_runV (As := [.int v1]) Γ hI (S_X12_first l X σ v1 r_2 hr_2) mf_X12_first (recv_X12 Γ hI) gw_291 rfl rfl ⟨Nat.le_of_ble_eq_true rfl, Nat.le_of_ble_eq_true rfl⟩ rfl hl.1 rfl (Nat.le_of_ble_eq_true rfl) dX12_steps_9 ⟨Nat.zero_le _, Nat.zero_le _⟩) (fun H locs hI => ?_)
      clear hr_2
      refine lv_istore_n (lv' := [(2, .int r_2), (0, .ref (X.2.1 + 60)), (1, .int v1)]) Γ.1.1 Γ.1.2.1 dX12_steps_12 rfl hl (by decide) rfl (fun ls hl => ?_)
      refine lv_iload_n Γ.1.1 Γ.1.2.1 dX12_steps_13 rfl (lv_at hl 0 rfl) ?_
      refine lv_iconst (v := (-1 : Int32)) Γ.1.1 Γ.1.2.1 dX12_steps_14 (by decide) ?_
      refine lv_icmp_ne (tgt := 21) Γ.1.1 Γ.1.2.1 dX12_steps_15 (by decide) (fun c_4 => ?_) (fun c_4 => ?_)
      · replace h := ite_neg c_4 h; clear c_4
        exact s_X12_steps_L21 σr x Γ σ v1 r_2 _ _ _ hI (lv_sub hl [1, 2, 0] rfl) h
      · replace h := ite_pos c_4 h; clear c_4
        refine lv_goto (tgt := 135) Γ.1.1 Γ.1.2.1 dX12_steps_18 (by decide) ?_
        obtain ⟨v1_27, e_v1_27, h⟩ := nm_some h
        refine lv_iinc (v := v1_27) (lv' := [(1, .int v1_27), (2, .int r_2), (0, .ref (X.2.1 + 60))]) Γ.1.1 Γ.1.2.1 dX12_steps_135 hl (k := 2) rfl (by rw [e_v1_27]; rfl) (by decide) rfl (fun ls hl => ?_)
        clear e_v1_27
        refine lv_goto (tgt := 2) Γ.1.1 Γ.1.2.1 dX12_steps_138 (by decide) ?_
        exact ih σ v1_27 _ _ _ hI (lv_sub hl [2, 0] rfl) h
set_option maxRecDepth 20000 in
set_option maxHeartbeats 4000000 in
theorem S_X12_steps (l : Launch) (X : GX) (σ : GM) (σr : GM) (x : Int32) (h : f_X12_steps σ = some (σr, x)) : gMet l yX12_steps cX12_steps 5 (some .int) ({ frames := 5, cells := 0, slots := 0, locals := 111 } : Room) X σ [.ref (X.2.1 + 60)] (gQi X σr x) := by
  unfold f_X12_steps at h
  refine gMet_of (lv := [(0, .ref (X.2.1 + 60))]) (by decide) rfl (Nat.le_of_ble_eq_true rfl) rfl (fun p e s m below meth c H ls Γ hI hl => ?_)
  refine lv_iconst (v := (0 : Int32)) Γ.1.1 Γ.1.2.1 dX12_steps_0 (by decide) ?_
  refine lv_istore_n (lv' := [(1, .int (0 : Int32)), (0, .ref (X.2.1 + 60))]) Γ.1.1 Γ.1.2.1 dX12_steps_1 rfl hl (by decide) rfl (fun ls hl => ?_)
  exact s_X12_steps_L2 σr x Γ _ σ (0 : Int32) _ _ _ hI (lv_sub hl [1, 0] rfl) h
set_option maxRecDepth 20000 in
set_option maxHeartbeats 4000000 in
theorem S_X12_shrink (l : Launch) (X : GX) (σ : GM) (σr : GM) (x : Int32) (h : f_X12_shrink σ = some (σr, x)) : gMet l yX12_shrink cX12_shrink 2 (some .int) ({ frames := 6, cells := 0, slots := 0, locals := 135 } : Room) X σ [.ref (X.2.1 + 60)] (gQi X σr x) := by
  unfold f_X12_shrink at h
  refine gMet_of (lv := [(0, .ref (X.2.1 + 60))]) (by decide) rfl (Nat.le_of_ble_eq_true rfl) rfl (fun p e s m below meth c H ls Γ hI hl => ?_)
  refine lv_aload_n Γ.1.1 Γ.1.2.1 dX12_shrink_0 rfl (lv_at hl 0 rfl) ?_
  refine lv_iconst (v := (0 : Int32)) Γ.1.1 Γ.1.2.1 dX12_shrink_1 (by decide) ?_
  refine put_X12_thrown Γ hI gw_211 dX12_shrink_2 (fun H locs hI => ?_)
  obtain ⟨σ_1, e_m_1, h⟩ := nm_some h
  rw [← e_m_1] at hI; clear e_m_1
  refine lv_aload_n Γ.1.1 Γ.1.2.1 dX12_shrink_5 rfl (lv_at hl 0 rfl) ?_
  refine get_X12_now Γ hI gw_244 dX12_shrink_6 ?_
  refine lv_iconst (v := (0 : Int32)) Γ.1.1 Γ.1.2.1 dX12_shrink_9 (by decide) ?_
  refine lv_aload_n Γ.1.1 Γ.1.2.1 dX12_shrink_10 rfl (lv_at hl 0 rfl) ?_
  refine get_X12_before Γ hI gw_285 dX12_shrink_11 ?_
  refine lv_iconst (v := (0 : Int32)) Γ.1.1 Γ.1.2.1 dX12_shrink_14 (by decide) ?_
  obtain ⟨σ_3, hr_2, h⟩ := ob_some h
  refine g_cv Γ hI (g_runS (As := [.ref (X.2.1 + 62), .int (0 : Int32), .ref (X.2.1 + 66), .int (0 : Int32)]) Γ hI (S_X12_copy l X σ_1 62 66 sh_62 sh_66 (0 : Int32) (0 : Int32) σ_3 hr_2) mf_X12_copy gw_245 rfl rfl ⟨Nat.le_of_ble_eq_true rfl, Nat.le_of_ble_eq_true rfl⟩ rfl hl.1 rfl (Nat.le_of_ble_eq_true rfl) dX12_shrink_15 ⟨Nat.zero_le _, Nat.zero_le _⟩) (fun H locs hI => ?_)
  clear hr_2
  refine lv_aload_n Γ.1.1 Γ.1.2.1 dX12_shrink_18 rfl (lv_at hl 0 rfl) ?_
  obtain ⟨σ_5, r_4, hr_4, h⟩ := ob2_some h
  refine g_ci Γ hI (g_runV (As := []) Γ hI (S_X12_steps l X σ_3 σ_5 r_4 hr_4) mf_X12_steps (recv_X12 Γ hI) gw_293 rfl rfl ⟨Nat.le_of_ble_eq_true rfl, Nat.le_of_ble_eq_true rfl⟩ rfl hl.1 rfl (Nat.le_of_ble_eq_true rfl) dX12_shrink_19 ⟨Nat.zero_le _, Nat.zero_le _⟩) (fun H locs hI => ?_)
  clear hr_4
  refine lv_istore_n (lv' := [(1, .int r_4), (0, .ref (X.2.1 + 60))]) Γ.1.1 Γ.1.2.1 dX12_shrink_22 rfl hl (by decide) rfl (fun ls hl => ?_)
  refine lv_iload_n Γ.1.1 Γ.1.2.1 dX12_shrink_23 rfl (lv_at hl 0 rfl) ?_
  refine lv_iconst (v := (-1 : Int32)) Γ.1.1 Γ.1.2.1 dX12_shrink_24 (by decide) ?_
  refine lv_icmp_eq (tgt := 32) Γ.1.1 Γ.1.2.1 dX12_shrink_25 (by decide) (fun c_6 => ?_) (fun c_6 => ?_)
  · replace h := ite_pos c_6 h; clear c_6
    refine lv_iload_n Γ.1.1 Γ.1.2.1 dX12_shrink_32 rfl (lv_at hl 0 rfl) ?_
    exact g_iret Γ hI dX12_shrink_33 (Prod.mk.inj (Option.some.inj h)).1 (Prod.mk.inj (Option.some.inj h)).2
  · replace h := ite_neg c_6 h; clear c_6
    refine lv_aload_n Γ.1.1 Γ.1.2.1 dX12_shrink_28 rfl (lv_at hl 1 rfl) ?_
    obtain ⟨σ_8, hr_7, h⟩ := ob_some h
    refine g_cv Γ hI (g_runV (As := []) Γ hI (S_X12_stay l X σ_5 σ_8 hr_7) mf_X12_stay (recv_X12 Γ hI) gw_294 rfl rfl ⟨Nat.le_of_ble_eq_true rfl, Nat.le_of_ble_eq_true rfl⟩ rfl hl.1 rfl (Nat.le_of_ble_eq_true rfl) dX12_shrink_29 ⟨Nat.zero_le _, Nat.zero_le _⟩) (fun H locs hI => ?_)
    clear hr_7
    refine lv_iload_n Γ.1.1 Γ.1.2.1 dX12_shrink_32 rfl (lv_at hl 0 rfl) ?_
    exact g_iret Γ hI dX12_shrink_33 (Prod.mk.inj (Option.some.inj h)).1 (Prod.mk.inj (Option.some.inj h)).2
set_option maxRecDepth 20000 in
set_option maxHeartbeats 4000000 in
theorem s_X12_shrinkAll_L34 {p : Program} {l : Launch} {e : Env} {s : State} {m : MethodId} {args : Array Value} {below : List Frame} {meth : Method} {c : Code} {X : GX} (σr : GM) (x : Int32) (Γ : gC X p m meth c cX12_shrinkAll 2 s args RX12 (some .int)) :
    ∀ (σ : GM) (v1 : Int32) (H : Heap) (locs : List Loc) (ls : Array Slot), gI X σ s H locs → lv_has ls 2 [(0, .ref (X.2.1 + 60)), (1, .int v1)] → f_X12_shrinkAll_L34 σ v1 = some (σr, x) →
    W p l e ({ frames := 6, cells := 0, slots := 0, locals := 135 } : Room) s m args below meth c H locs 0 0 (MQ below (gQi X σr x) args s 0 0 (gA X)) (F0 m 34 ls []) := by
  intro σ v1 H locs ls hI hl h
  unfold f_X12_shrinkAll_L34 at h
  refine lv_iload_n Γ.1.1 Γ.1.2.1 dX12_shrinkAll_34 rfl (lv_at hl 1 rfl) ?_
  refine lv_if_le (tgt := 42) Γ.1.1 Γ.1.2.1 dX12_shrinkAll_35 (by decide) (fun c_7 => ?_) (fun c_7 => ?_)
  · replace h := ite_pos c_7 h; clear c_7
    refine lv_iload_n Γ.1.1 Γ.1.2.1 dX12_shrinkAll_42 rfl (lv_at hl 1 rfl) ?_
    exact g_iret Γ hI dX12_shrinkAll_43 (Prod.mk.inj (Option.some.inj h)).1 (Prod.mk.inj (Option.some.inj h)).2
  · replace h := ite_neg c_7 h; clear c_7
    refine lv_aload_n Γ.1.1 Γ.1.2.1 dX12_shrinkAll_38 rfl (lv_at hl 0 rfl) ?_
    obtain ⟨σ_9, hr_8, h⟩ := ob_some h
    refine g_cv Γ hI (g_runV (As := []) Γ hI (S_X12_stay l X σ σ_9 hr_8) mf_X12_stay (recv_X12 Γ hI) gw_294 rfl rfl ⟨Nat.le_of_ble_eq_true rfl, Nat.le_of_ble_eq_true rfl⟩ rfl hl.1 rfl (Nat.le_of_ble_eq_true rfl) dX12_shrinkAll_39 ⟨Nat.zero_le _, Nat.zero_le _⟩) (fun H locs hI => ?_)
    clear hr_8
    refine lv_iload_n Γ.1.1 Γ.1.2.1 dX12_shrinkAll_42 rfl (lv_at hl 1 rfl) ?_
    exact g_iret Γ hI dX12_shrinkAll_43 (Prod.mk.inj (Option.some.inj h)).1 (Prod.mk.inj (Option.some.inj h)).2
set_option maxRecDepth 20000 in
set_option maxHeartbeats 4000000 in
theorem s_X12_shrinkAll_L20 {p : Program} {l : Launch} {e : Env} {s : State} {m : MethodId} {args : Array Value} {below : List Frame} {meth : Method} {c : Code} {X : GX} (σr : GM) (x : Int32) (Γ : gC X p m meth c cX12_shrinkAll 2 s args RX12 (some .int)) :
    ∀ (k : Nat) (σ : GM) (v1 : Int32) (H : Heap) (locs : List Loc) (ls : Array Slot), gI X σ s H locs → lv_has ls 2 [(0, .ref (X.2.1 + 60)), (1, .int v1)] → f_X12_shrinkAll_L20 k σ v1 = some (σr, x) →
    W p l e ({ frames := 6, cells := 0, slots := 0, locals := 135 } : Room) s m args below meth c H locs 0 0 (MQ below (gQi X σr x) args s 0 0 (gA X)) (F0 m 20 ls []) := by
  intro k
  induction k with
  | zero =>
    intro σ v1 H locs ls hI hl h
    exact absurd h (by simp [f_X12_shrinkAll_L20])
  | succ k ih =>
    intro σ v1 H locs ls hI hl h
    unfold f_X12_shrinkAll_L20 at h
    refine lv_aload_n Γ.1.1 Γ.1.2.1 dX12_shrinkAll_20 rfl (lv_at hl 0 rfl) ?_
    obtain ⟨σ_5, r_4, hr_4, h⟩ := ob2_some h
    refine g_ci Γ hI (g_runV (As := []) Γ hI (S_X12_steps l X σ σ_5 r_4 hr_4) mf_X12_steps (recv_X12 Γ hI) gw_293 rfl rfl ⟨Nat.le_of_ble_eq_true rfl, Nat.le_of_ble_eq_true rfl⟩ rfl hl.1 rfl (Nat.le_of_ble_eq_true rfl) dX12_shrinkAll_21 ⟨Nat.zero_le _, Nat.zero_le _⟩) (fun H locs hI => ?_)
    clear hr_4
    refine lv_iconst (v := (-1 : Int32)) Γ.1.1 Γ.1.2.1 dX12_shrinkAll_24 (by decide) ?_
    refine lv_icmp_eq (tgt := 34) Γ.1.1 Γ.1.2.1 dX12_shrinkAll_25 (by decide) (fun c_6 => ?_) (fun c_6 => ?_)
    · replace h := ite_pos c_6 h; clear c_6
      exact s_X12_shrinkAll_L34 σr x Γ σ_5 v1 _ _ _ hI hl h
    · replace h := ite_neg c_6 h; clear c_6
      obtain ⟨v1_10, e_v1_10, h⟩ := nm_some h
      refine lv_iinc (v := v1_10) (lv' := [(1, .int v1_10), (0, .ref (X.2.1 + 60))]) Γ.1.1 Γ.1.2.1 dX12_shrinkAll_28 hl (k := 1) rfl (by rw [e_v1_10]; rfl) (by decide) rfl (fun ls hl => ?_)
      clear e_v1_10
      refine lv_goto (tgt := 20) Γ.1.1 Γ.1.2.1 dX12_shrinkAll_31 (by decide) ?_
      exact ih σ_5 v1_10 _ _ _ hI (lv_sub hl [1, 0] rfl) h
set_option maxRecDepth 20000 in
set_option maxHeartbeats 4000000 in
theorem S_X12_shrinkAll (l : Launch) (X : GX) (σ : GM) (σr : GM) (x : Int32) (h : f_X12_shrinkAll σ = some (σr, x)) : gMet l yX12_shrinkAll cX12_shrinkAll 2 (some .int) ({ frames := 6, cells := 0, slots := 0, locals := 135 } : Room) X σ [.ref (X.2.1 + 60)] (gQi X σr x) := by
  unfold f_X12_shrinkAll at h
  refine gMet_of (lv := [(0, .ref (X.2.1 + 60))]) (by decide) rfl (Nat.le_of_ble_eq_true rfl) rfl (fun p e s m below meth c H ls Γ hI hl => ?_)
  refine lv_aload_n Γ.1.1 Γ.1.2.1 dX12_shrinkAll_0 rfl (lv_at hl 0 rfl) ?_
  refine lv_iconst (v := (0 : Int32)) Γ.1.1 Γ.1.2.1 dX12_shrinkAll_1 (by decide) ?_
  refine put_X12_thrown Γ hI gw_211 dX12_shrinkAll_2 (fun H locs hI => ?_)
  obtain ⟨σ_1, e_m_1, h⟩ := nm_some h
  rw [← e_m_1] at hI; clear e_m_1
  refine lv_aload_n Γ.1.1 Γ.1.2.1 dX12_shrinkAll_5 rfl (lv_at hl 0 rfl) ?_
  refine get_X12_now Γ hI gw_244 dX12_shrinkAll_6 ?_
  refine lv_iconst (v := (0 : Int32)) Γ.1.1 Γ.1.2.1 dX12_shrinkAll_9 (by decide) ?_
  refine lv_aload_n Γ.1.1 Γ.1.2.1 dX12_shrinkAll_10 rfl (lv_at hl 0 rfl) ?_
  refine get_X12_before Γ hI gw_285 dX12_shrinkAll_11 ?_
  refine lv_iconst (v := (0 : Int32)) Γ.1.1 Γ.1.2.1 dX12_shrinkAll_14 (by decide) ?_
  obtain ⟨σ_3, hr_2, h⟩ := ob_some h
  refine g_cv Γ hI (g_runS (As := [.ref (X.2.1 + 62), .int (0 : Int32), .ref (X.2.1 + 66), .int (0 : Int32)]) Γ hI (S_X12_copy l X σ_1 62 66 sh_62 sh_66 (0 : Int32) (0 : Int32) σ_3 hr_2) mf_X12_copy gw_245 rfl rfl ⟨Nat.le_of_ble_eq_true rfl, Nat.le_of_ble_eq_true rfl⟩ rfl hl.1 rfl (Nat.le_of_ble_eq_true rfl) dX12_shrinkAll_15 ⟨Nat.zero_le _, Nat.zero_le _⟩) (fun H locs hI => ?_)
  clear hr_2
  refine lv_iconst (v := (0 : Int32)) Γ.1.1 Γ.1.2.1 dX12_shrinkAll_18 (by decide) ?_
  refine lv_istore_n (lv' := [(1, .int (0 : Int32)), (0, .ref (X.2.1 + 60))]) Γ.1.1 Γ.1.2.1 dX12_shrinkAll_19 rfl hl (by decide) rfl (fun ls hl => ?_)
  exact s_X12_shrinkAll_L20 σr x Γ _ σ_3 (0 : Int32) _ _ _ hI (lv_sub hl [1, 0] rfl) h
set_option maxRecDepth 20000 in
set_option maxHeartbeats 4000000 in
theorem S_X12_drop (l : Launch) (X : GX) (σ : GM) (v1 : Int32) (σr : GM) (x : Int32) (h : f_X12_drop σ v1 = some (σr, x)) : gMet l yX12_drop cX12_drop 2 (some .int) ({ frames := 2, cells := 0, slots := 0, locals := 45 } : Room) X σ [.ref (X.2.1 + 60), .int v1] (gQi X σr x) := by
  unfold f_X12_drop at h
  refine gMet_of (lv := [(0, .ref (X.2.1 + 60)), (1, .int v1)]) (by decide) rfl (Nat.le_of_ble_eq_true rfl) rfl (fun p e s m below meth c H ls Γ hI hl => ?_)
  refine lv_aload_n Γ.1.1 Γ.1.2.1 dX12_drop_0 rfl (lv_at hl 0 rfl) ?_
  refine lv_iconst (v := (0 : Int32)) Γ.1.1 Γ.1.2.1 dX12_drop_1 (by decide) ?_
  refine put_X12_thrown Γ hI gw_211 dX12_drop_2 (fun H locs hI => ?_)
  obtain ⟨σ_1, e_m_1, h⟩ := nm_some h
  rw [← e_m_1] at hI; clear e_m_1
  refine lv_aload_n Γ.1.1 Γ.1.2.1 dX12_drop_5 rfl (lv_at hl 0 rfl) ?_
  refine lv_iload_n Γ.1.1 Γ.1.2.1 dX12_drop_6 rfl (lv_at hl 1 rfl) ?_
  obtain ⟨r_2, hr_2, h⟩ := ob_some h
  refine g_ci Γ hI (g_runV (As := [.int v1]) Γ hI (S_X12_isThere l X σ_1 v1 r_2 hr_2) mf_X12_isThere (recv_X12 Γ hI) gw_255 rfl rfl ⟨Nat.le_of_ble_eq_true rfl, Nat.le_of_ble_eq_true rfl⟩ rfl hl.1 rfl (Nat.le_of_ble_eq_true rfl) dX12_drop_7 ⟨Nat.zero_le _, Nat.zero_le _⟩) (fun H locs hI => ?_)
  clear hr_2
  refine lv_if_ne (tgt := 15) Γ.1.1 Γ.1.2.1 dX12_drop_10 (by decide) (fun c_4 => ?_) (fun c_4 => ?_)
  · replace h := ite_neg c_4 h; clear c_4
    refine lv_aload_n Γ.1.1 Γ.1.2.1 dX12_drop_15 rfl (lv_at hl 0 rfl) ?_
    obtain ⟨σ_6, hr_5, h⟩ := ob_some h
    refine g_cv Γ hI (g_runV (As := []) Γ hI (S_X12_snap l X σ_1 σ_6 hr_5) mf_X12_snap (recv_X12 Γ hI) gw_286 rfl rfl ⟨Nat.le_of_ble_eq_true rfl, Nat.le_of_ble_eq_true rfl⟩ rfl hl.1 rfl (Nat.le_of_ble_eq_true rfl) dX12_drop_16 ⟨Nat.zero_le _, Nat.zero_le _⟩) (fun H locs hI => ?_)
    clear hr_5
    refine lv_aload_n Γ.1.1 Γ.1.2.1 dX12_drop_19 rfl (lv_at hl 0 rfl) ?_
    refine get_X12_now Γ hI gw_244 dX12_drop_20 ?_
    refine lv_iload_n Γ.1.1 Γ.1.2.1 dX12_drop_23 rfl (lv_at hl 1 rfl) ?_
    obtain ⟨σ_8, hr_7, h⟩ := ob_some h
    refine g_cv Γ hI (g_runS (As := [.ref (X.2.1 + 62), .int v1]) Γ hI (S_X12_leaves l X σ_6 62 sh_62 v1 σ_8 hr_7) mf_X12_leaves gw_292 rfl rfl ⟨Nat.le_of_ble_eq_true rfl, Nat.le_of_ble_eq_true rfl⟩ rfl hl.1 rfl (Nat.le_of_ble_eq_true rfl) dX12_drop_24 ⟨Nat.zero_le _, Nat.zero_le _⟩) (fun H locs hI => ?_)
    clear hr_7
    refine lv_aload_n Γ.1.1 Γ.1.2.1 dX12_drop_27 rfl (lv_at hl 0 rfl) ?_
    obtain ⟨r_9, hr_9, h⟩ := ob_some h
    refine g_ci Γ hI (g_runV (As := []) Γ hI (S_X12_there l X σ_8 r_9 hr_9) mf_X12_there (recv_X12 Γ hI) gw_250 rfl rfl ⟨Nat.le_of_ble_eq_true rfl, Nat.le_of_ble_eq_true rfl⟩ rfl hl.1 rfl (Nat.le_of_ble_eq_true rfl) dX12_drop_28 ⟨Nat.zero_le _, Nat.zero_le _⟩) (fun H locs hI => ?_)
    clear hr_9
    obtain ⟨r_11, hr_11, h⟩ := ob_some h
    refine g_ci Γ hI (g_runS (As := [.int r_9]) Γ hI (S_X12_bits l X σ_8 r_9 r_11 hr_11) mf_X12_bits gw_257 rfl rfl ⟨Nat.le_of_ble_eq_true rfl, Nat.le_of_ble_eq_true rfl⟩ rfl hl.1 rfl (Nat.le_of_ble_eq_true rfl) dX12_drop_31 ⟨Nat.zero_le _, Nat.zero_le _⟩) (fun H locs hI => ?_)
    clear hr_11
    exact g_iret Γ hI dX12_drop_34 (Prod.mk.inj (Option.some.inj h)).1 (Prod.mk.inj (Option.some.inj h)).2
  · replace h := ite_pos c_4 h; clear c_4
    refine lv_iconst (v := (-1 : Int32)) Γ.1.1 Γ.1.2.1 dX12_drop_13 (by decide) ?_
    exact g_iret Γ hI dX12_drop_14 (Prod.mk.inj (Option.some.inj h)).1 (Prod.mk.inj (Option.some.inj h)).2
set_option maxRecDepth 20000 in
set_option maxHeartbeats 4000000 in
theorem s_X12_mayJoin_L57 {p : Program} {l : Launch} {e : Env} {s : State} {m : MethodId} {args : Array Value} {below : List Frame} {meth : Method} {c : Code} {X : GX} (σ : GM) (x : Int32) (Γ : gC X p m meth c cX12_mayJoin 3 s args RX12 (some .boolean)) :
    ∀ (s0 : Int32) (s1 : Int32) (H : Heap) (locs : List Loc) (ls : Array Slot), gI X σ s H locs → lv_has ls 3 [] → f_X12_mayJoin_L57 σ s0 s1 = some x →
    W p l e ({ frames := 3, cells := 0, slots := 0, locals := 69 } : Room) s m args below meth c H locs 0 0 (MQ below (gQi X σ x) args s 0 0 (gA X)) (F0 m 57 ls [.int s1, .int s0]) := by
  intro s0 s1 H locs ls hI hl h
  unfold f_X12_mayJoin_L57 at h
  refine lv_iadd Γ.1.1 Γ.1.2.1 dX12_mayJoin_57 ?_
  refine lv_bipush (v := (6 : Int32)) Γ.1.1 Γ.1.2.1 dX12_mayJoin_58 (by decide) ?_
  refine lv_icmp_gt (tgt := 67) Γ.1.1 Γ.1.2.1 dX12_mayJoin_60 (by decide) (fun c_11 => ?_) (fun c_11 => ?_)
  · replace h := ite_pos c_11 h; clear c_11
    refine lv_iconst (v := (0 : Int32)) Γ.1.1 Γ.1.2.1 dX12_mayJoin_67 (by decide) ?_
    exact g_zret Γ hI dX12_mayJoin_68 rfl (Option.some.inj h)
  · replace h := ite_neg c_11 h; clear c_11
    refine lv_iconst (v := (1 : Int32)) Γ.1.1 Γ.1.2.1 dX12_mayJoin_63 (by decide) ?_
    refine lv_goto (tgt := 68) Γ.1.1 Γ.1.2.1 dX12_mayJoin_64 (by decide) ?_
    exact g_zret Γ hI dX12_mayJoin_68 rfl (Option.some.inj h)
set_option maxRecDepth 20000 in
set_option maxHeartbeats 4000000 in
theorem s_X12_mayJoin_L33 {p : Program} {l : Launch} {e : Env} {s : State} {m : MethodId} {args : Array Value} {below : List Frame} {meth : Method} {c : Code} {X : GX} (σ : GM) (x : Int32) (Γ : gC X p m meth c cX12_mayJoin 3 s args RX12 (some .boolean)) :
    ∀ (v1 : Int32) (v2 : Int32) (s0 : Int32) (s1 : Int32) (H : Heap) (locs : List Loc) (ls : Array Slot), gI X σ s H locs → lv_has ls 3 [(0, .ref (X.2.1 + 60)), (1, .int v1), (2, .int v2)] → f_X12_mayJoin_L33 σ v1 v2 s0 s1 = some x →
    W p l e ({ frames := 3, cells := 0, slots := 0, locals := 69 } : Room) s m args below meth c H locs 0 0 (MQ below (gQi X σ x) args s 0 0 (gA X)) (F0 m 33 ls [.int s1, .int s0]) := by
  intro v1 v2 s0 s1 H locs ls hI hl h
  unfold f_X12_mayJoin_L33 at h
  refine lv_iadd Γ.1.1 Γ.1.2.1 dX12_mayJoin_33 ?_
  refine lv_bipush (v := (6 : Int32)) Γ.1.1 Γ.1.2.1 dX12_mayJoin_34 (by decide) ?_
  refine lv_icmp_gt (tgt := 67) Γ.1.1 Γ.1.2.1 dX12_mayJoin_36 (by decide) (fun c_7 => ?_) (fun c_7 => ?_)
  · replace h := ite_pos c_7 h; clear c_7
    refine lv_iconst (v := (0 : Int32)) Γ.1.1 Γ.1.2.1 dX12_mayJoin_67 (by decide) ?_
    exact g_zret Γ hI dX12_mayJoin_68 rfl (Option.some.inj h)
  · replace h := ite_neg c_7 h; clear c_7
    refine lv_aload_n Γ.1.1 Γ.1.2.1 dX12_mayJoin_39 rfl (lv_at hl 0 rfl) ?_
    refine get_X12_now Γ hI gw_244 dX12_mayJoin_40 ?_
    refine lv_iload_n Γ.1.1 Γ.1.2.1 dX12_mayJoin_43 rfl (lv_at hl 2 rfl) ?_
    obtain ⟨r_8, hr_8, h⟩ := ob_some h
    refine g_ci Γ hI (g_runS (As := [.ref (X.2.1 + 62), .int v2]) Γ hI (S_X12_allEnds l X σ 62 sh_62 v2 r_8 hr_8) mf_X12_allEnds gw_242 rfl rfl ⟨Nat.le_of_ble_eq_true rfl, Nat.le_of_ble_eq_true rfl⟩ rfl hl.1 rfl (Nat.le_of_ble_eq_true rfl) dX12_mayJoin_44 ⟨Nat.zero_le _, Nat.zero_le _⟩) (fun H locs hI => ?_)
    clear hr_8
    refine lv_iload_n Γ.1.1 Γ.1.2.1 dX12_mayJoin_47 rfl (lv_at hl 1 rfl) ?_
    refine lv_iload_n Γ.1.1 Γ.1.2.1 dX12_mayJoin_48 rfl (lv_at hl 2 rfl) ?_
    refine lv_icmp_ne (tgt := 56) Γ.1.1 Γ.1.2.1 dX12_mayJoin_49 (by decide) (fun c_10 => ?_) (fun c_10 => ?_)
    · replace h := ite_neg c_10 h; clear c_10
      refine lv_iconst (v := (1 : Int32)) Γ.1.1 Γ.1.2.1 dX12_mayJoin_56 (by decide) ?_
      exact s_X12_mayJoin_L57 σ x Γ r_8 (1 : Int32) _ _ _ hI (lv_sub hl [] rfl) h
    · replace h := ite_pos c_10 h; clear c_10
      refine lv_iconst (v := (2 : Int32)) Γ.1.1 Γ.1.2.1 dX12_mayJoin_52 (by decide) ?_
      refine lv_goto (tgt := 57) Γ.1.1 Γ.1.2.1 dX12_mayJoin_53 (by decide) ?_
      exact s_X12_mayJoin_L57 σ x Γ r_8 (2 : Int32) _ _ _ hI (lv_sub hl [] rfl) h
set_option maxRecDepth 20000 in
set_option maxHeartbeats 4000000 in
theorem S_X12_mayJoin (l : Launch) (X : GX) (σ : GM) (v1 : Int32) (v2 : Int32) (x : Int32) (h : f_X12_mayJoin σ v1 v2 = some x) : gMet l yX12_mayJoin cX12_mayJoin 3 (some .boolean) ({ frames := 3, cells := 0, slots := 0, locals := 69 } : Room) X σ [.ref (X.2.1 + 60), .int v1, .int v2] (gQi X σ x) := by
  unfold f_X12_mayJoin at h
  refine gMet_of (lv := [(0, .ref (X.2.1 + 60)), (1, .int v1), (2, .int v2)]) (by decide) rfl (Nat.le_of_ble_eq_true rfl) rfl (fun p e s m below meth c H ls Γ hI hl => ?_)
  refine lv_aload_n Γ.1.1 Γ.1.2.1 dX12_mayJoin_0 rfl (lv_at hl 0 rfl) ?_
  refine get_X12_now Γ hI gw_244 dX12_mayJoin_1 ?_
  refine lv_sipush (v := (4095 : Int32)) Γ.1.1 Γ.1.2.1 dX12_mayJoin_4 (by decide) ?_
  obtain ⟨r_1, hr_1, h⟩ := ob_some h
  refine g_ci Γ hI (g_runS (As := [.ref (X.2.1 + 62), .int (4095 : Int32)]) Γ hI (S_X12_lineMany l X σ 62 sh_62 (4095 : Int32) r_1 hr_1) mf_X12_lineMany gw_241 rfl rfl ⟨Nat.le_of_ble_eq_true rfl, Nat.le_of_ble_eq_true rfl⟩ rfl hl.1 rfl (Nat.le_of_ble_eq_true rfl) dX12_mayJoin_7 ⟨Nat.zero_le _, Nat.zero_le _⟩) (fun H locs hI => ?_)
  clear hr_1
  refine lv_bipush (v := (20 : Int32)) Γ.1.1 Γ.1.2.1 dX12_mayJoin_10 (by decide) ?_
  refine lv_icmp_ge (tgt := 67) Γ.1.1 Γ.1.2.1 dX12_mayJoin_12 (by decide) (fun c_3 => ?_) (fun c_3 => ?_)
  · replace h := ite_pos c_3 h; clear c_3
    refine lv_iconst (v := (0 : Int32)) Γ.1.1 Γ.1.2.1 dX12_mayJoin_67 (by decide) ?_
    exact g_zret Γ hI dX12_mayJoin_68 rfl (Option.some.inj h)
  · replace h := ite_neg c_3 h; clear c_3
    refine lv_aload_n Γ.1.1 Γ.1.2.1 dX12_mayJoin_15 rfl (lv_at hl 0 rfl) ?_
    refine get_X12_now Γ hI gw_244 dX12_mayJoin_16 ?_
    refine lv_iload_n Γ.1.1 Γ.1.2.1 dX12_mayJoin_19 rfl (lv_at hl 1 rfl) ?_
    obtain ⟨r_4, hr_4, h⟩ := ob_some h
    refine g_ci Γ hI (g_runS (As := [.ref (X.2.1 + 62), .int v1]) Γ hI (S_X12_allEnds l X σ 62 sh_62 v1 r_4 hr_4) mf_X12_allEnds gw_242 rfl rfl ⟨Nat.le_of_ble_eq_true rfl, Nat.le_of_ble_eq_true rfl⟩ rfl hl.1 rfl (Nat.le_of_ble_eq_true rfl) dX12_mayJoin_20 ⟨Nat.zero_le _, Nat.zero_le _⟩) (fun H locs hI => ?_)
    clear hr_4
    refine lv_iload_n Γ.1.1 Γ.1.2.1 dX12_mayJoin_23 rfl (lv_at hl 1 rfl) ?_
    refine lv_iload_n Γ.1.1 Γ.1.2.1 dX12_mayJoin_24 rfl (lv_at hl 2 rfl) ?_
    refine lv_icmp_ne (tgt := 32) Γ.1.1 Γ.1.2.1 dX12_mayJoin_25 (by decide) (fun c_6 => ?_) (fun c_6 => ?_)
    · replace h := ite_neg c_6 h; clear c_6
      refine lv_iconst (v := (1 : Int32)) Γ.1.1 Γ.1.2.1 dX12_mayJoin_32 (by decide) ?_
      exact s_X12_mayJoin_L33 σ x Γ v1 v2 r_4 (1 : Int32) _ _ _ hI hl h
    · replace h := ite_pos c_6 h; clear c_6
      refine lv_iconst (v := (2 : Int32)) Γ.1.1 Γ.1.2.1 dX12_mayJoin_28 (by decide) ?_
      refine lv_goto (tgt := 33) Γ.1.1 Γ.1.2.1 dX12_mayJoin_29 (by decide) ?_
      exact s_X12_mayJoin_L33 σ x Γ v1 v2 r_4 (2 : Int32) _ _ _ hI hl h
set_option maxRecDepth 20000 in
set_option maxHeartbeats 4000000 in
theorem S_X12_join (l : Launch) (X : GX) (σ : GM) (v1 : Int32) (v2 : Int32) (σr : GM) (x : Int32) (h : f_X12_join σ v1 v2 = some (σr, x)) : gMet l yX12_join cX12_join 3 (some .int) ({ frames := 4, cells := 0, slots := 0, locals := 91 } : Room) X σ [.ref (X.2.1 + 60), .int v1, .int v2] (gQi X σr x) := by
  unfold f_X12_join at h
  refine gMet_of (lv := [(0, .ref (X.2.1 + 60)), (1, .int v1), (2, .int v2)]) (by decide) rfl (Nat.le_of_ble_eq_true rfl) rfl (fun p e s m below meth c H ls Γ hI hl => ?_)
  refine lv_aload_n Γ.1.1 Γ.1.2.1 dX12_join_0 rfl (lv_at hl 0 rfl) ?_
  refine lv_iconst (v := (0 : Int32)) Γ.1.1 Γ.1.2.1 dX12_join_1 (by decide) ?_
  refine put_X12_thrown Γ hI gw_211 dX12_join_2 (fun H locs hI => ?_)
  obtain ⟨σ_1, e_m_1, h⟩ := nm_some h
  rw [← e_m_1] at hI; clear e_m_1
  refine lv_aload_n Γ.1.1 Γ.1.2.1 dX12_join_5 rfl (lv_at hl 0 rfl) ?_
  refine lv_iload_n Γ.1.1 Γ.1.2.1 dX12_join_6 rfl (lv_at hl 1 rfl) ?_
  obtain ⟨r_2, hr_2, h⟩ := ob_some h
  refine g_ci Γ hI (g_runV (As := [.int v1]) Γ hI (S_X12_isThere l X σ_1 v1 r_2 hr_2) mf_X12_isThere (recv_X12 Γ hI) gw_255 rfl rfl ⟨Nat.le_of_ble_eq_true rfl, Nat.le_of_ble_eq_true rfl⟩ rfl hl.1 rfl (Nat.le_of_ble_eq_true rfl) dX12_join_7 ⟨Nat.zero_le _, Nat.zero_le _⟩) (fun H locs hI => ?_)
  clear hr_2
  refine lv_if_eq (tgt := 21) Γ.1.1 Γ.1.2.1 dX12_join_10 (by decide) (fun c_4 => ?_) (fun c_4 => ?_)
  · replace h := ite_pos c_4 h; clear c_4
    refine lv_iconst (v := (-1 : Int32)) Γ.1.1 Γ.1.2.1 dX12_join_21 (by decide) ?_
    exact g_iret Γ hI dX12_join_22 (Prod.mk.inj (Option.some.inj h)).1 (Prod.mk.inj (Option.some.inj h)).2
  · replace h := ite_neg c_4 h; clear c_4
    refine lv_aload_n Γ.1.1 Γ.1.2.1 dX12_join_13 rfl (lv_at hl 0 rfl) ?_
    refine lv_iload_n Γ.1.1 Γ.1.2.1 dX12_join_14 rfl (lv_at hl 2 rfl) ?_
    obtain ⟨r_5, hr_5, h⟩ := ob_some h
    refine g_ci Γ hI (g_runV (As := [.int v2]) Γ hI (S_X12_isThere l X σ_1 v2 r_5 hr_5) mf_X12_isThere (recv_X12 Γ hI) gw_255 rfl rfl ⟨Nat.le_of_ble_eq_true rfl, Nat.le_of_ble_eq_true rfl⟩ rfl hl.1 rfl (Nat.le_of_ble_eq_true rfl) dX12_join_15 ⟨Nat.zero_le _, Nat.zero_le _⟩) (fun H locs hI => ?_)
    clear hr_5
    refine lv_if_ne (tgt := 23) Γ.1.1 Γ.1.2.1 dX12_join_18 (by decide) (fun c_7 => ?_) (fun c_7 => ?_)
    · replace h := ite_neg c_7 h; clear c_7
      refine lv_aload_n Γ.1.1 Γ.1.2.1 dX12_join_23 rfl (lv_at hl 0 rfl) ?_
      refine lv_iload_n Γ.1.1 Γ.1.2.1 dX12_join_24 rfl (lv_at hl 1 rfl) ?_
      refine lv_iload_n Γ.1.1 Γ.1.2.1 dX12_join_25 rfl (lv_at hl 2 rfl) ?_
      obtain ⟨r_8, hr_8, h⟩ := ob_some h
      refine g_ci Γ hI (g_runV (As := [.int v1, .int v2]) Γ hI (S_X12_mayJoin l X σ_1 v1 v2 r_8 hr_8) mf_X12_mayJoin (recv_X12 Γ hI) gw_295 rfl rfl ⟨Nat.le_of_ble_eq_true rfl, Nat.le_of_ble_eq_true rfl⟩ rfl hl.1 rfl (Nat.le_of_ble_eq_true rfl) dX12_join_26 ⟨Nat.zero_le _, Nat.zero_le _⟩) (fun H locs hI => ?_)
      clear hr_8
      refine lv_if_ne (tgt := 35) Γ.1.1 Γ.1.2.1 dX12_join_29 (by decide) (fun c_10 => ?_) (fun c_10 => ?_)
      · replace h := ite_neg c_10 h; clear c_10
        refine lv_aload_n Γ.1.1 Γ.1.2.1 dX12_join_35 rfl (lv_at hl 0 rfl) ?_
        obtain ⟨σ_12, hr_11, h⟩ := ob_some h
        refine g_cv Γ hI (g_runV (As := []) Γ hI (S_X12_snap l X σ_1 σ_12 hr_11) mf_X12_snap (recv_X12 Γ hI) gw_286 rfl rfl ⟨Nat.le_of_ble_eq_true rfl, Nat.le_of_ble_eq_true rfl⟩ rfl hl.1 rfl (Nat.le_of_ble_eq_true rfl) dX12_join_36 ⟨Nat.zero_le _, Nat.zero_le _⟩) (fun H locs hI => ?_)
        clear hr_11
        refine lv_aload_n Γ.1.1 Γ.1.2.1 dX12_join_39 rfl (lv_at hl 0 rfl) ?_
        refine get_X12_now Γ hI gw_244 dX12_join_40 ?_
        refine lv_iload_n Γ.1.1 Γ.1.2.1 dX12_join_43 rfl (lv_at hl 1 rfl) ?_
        refine lv_iload_n Γ.1.1 Γ.1.2.1 dX12_join_44 rfl (lv_at hl 2 rfl) ?_
        refine lv_iconst (v := (1 : Int32)) Γ.1.1 Γ.1.2.1 dX12_join_45 (by decide) ?_
        obtain ⟨σ_14, hr_13, h⟩ := ob_some h
        refine g_cv Γ hI (g_runS (As := [.ref (X.2.1 + 62), .int v1, .int v2, .int (1 : Int32)]) Γ hI (S_X12_adds l X σ_12 62 sh_62 v1 v2 (1 : Int32) σ_14 hr_13) mf_X12_adds gw_243 rfl rfl ⟨Nat.le_of_ble_eq_true rfl, Nat.le_of_ble_eq_true rfl⟩ rfl hl.1 rfl (Nat.le_of_ble_eq_true rfl) dX12_join_46 ⟨Nat.zero_le _, Nat.zero_le _⟩) (fun H locs hI => ?_)
        clear hr_13
        refine lv_aload_n Γ.1.1 Γ.1.2.1 dX12_join_49 rfl (lv_at hl 0 rfl) ?_
        refine get_X12_now Γ hI gw_244 dX12_join_50 ?_
        refine lv_iload_n Γ.1.1 Γ.1.2.1 dX12_join_53 rfl (lv_at hl 1 rfl) ?_
        refine lv_iload_n Γ.1.1 Γ.1.2.1 dX12_join_54 rfl (lv_at hl 2 rfl) ?_
        obtain ⟨r_15, hr_15, h⟩ := ob_some h
        refine g_ci Γ hI (g_runS (As := [.ref (X.2.1 + 62), .int v1, .int v2]) Γ hI (S_X12_between l X σ_14 62 sh_62 v1 v2 r_15 hr_15) mf_X12_between gw_232 rfl rfl ⟨Nat.le_of_ble_eq_true rfl, Nat.le_of_ble_eq_true rfl⟩ rfl hl.1 rfl (Nat.le_of_ble_eq_true rfl) dX12_join_55 ⟨Nat.zero_le _, Nat.zero_le _⟩) (fun H locs hI => ?_)
        clear hr_15
        exact g_iret Γ hI dX12_join_58 (Prod.mk.inj (Option.some.inj h)).1 (Prod.mk.inj (Option.some.inj h)).2
      · replace h := ite_pos c_10 h; clear c_10
        refine lv_bipush (v := (-2 : Int32)) Γ.1.1 Γ.1.2.1 dX12_join_32 (by decide) ?_
        exact g_iret Γ hI dX12_join_34 (Prod.mk.inj (Option.some.inj h)).1 (Prod.mk.inj (Option.some.inj h)).2
    · replace h := ite_pos c_7 h; clear c_7
      refine lv_iconst (v := (-1 : Int32)) Γ.1.1 Γ.1.2.1 dX12_join_21 (by decide) ?_
      exact g_iret Γ hI dX12_join_22 (Prod.mk.inj (Option.some.inj h)).1 (Prod.mk.inj (Option.some.inj h)).2
set_option maxRecDepth 20000 in
set_option maxHeartbeats 4000000 in
theorem S_X12_part (l : Launch) (X : GX) (σ : GM) (v1 : Int32) (v2 : Int32) (σr : GM) (x : Int32) (h : f_X12_part σ v1 v2 = some (σr, x)) : gMet l yX12_part cX12_part 3 (some .int) ({ frames := 2, cells := 0, slots := 0, locals := 45 } : Room) X σ [.ref (X.2.1 + 60), .int v1, .int v2] (gQi X σr x) := by
  unfold f_X12_part at h
  refine gMet_of (lv := [(0, .ref (X.2.1 + 60)), (1, .int v1), (2, .int v2)]) (by decide) rfl (Nat.le_of_ble_eq_true rfl) rfl (fun p e s m below meth c H ls Γ hI hl => ?_)
  refine lv_aload_n Γ.1.1 Γ.1.2.1 dX12_part_0 rfl (lv_at hl 0 rfl) ?_
  refine lv_iconst (v := (0 : Int32)) Γ.1.1 Γ.1.2.1 dX12_part_1 (by decide) ?_
  refine put_X12_thrown Γ hI gw_211 dX12_part_2 (fun H locs hI => ?_)
  obtain ⟨σ_1, e_m_1, h⟩ := nm_some h
  rw [← e_m_1] at hI; clear e_m_1
  refine lv_aload_n Γ.1.1 Γ.1.2.1 dX12_part_5 rfl (lv_at hl 0 rfl) ?_
  refine lv_iload_n Γ.1.1 Γ.1.2.1 dX12_part_6 rfl (lv_at hl 1 rfl) ?_
  obtain ⟨r_2, hr_2, h⟩ := ob_some h
  refine g_ci Γ hI (g_runV (As := [.int v1]) Γ hI (S_X12_isThere l X σ_1 v1 r_2 hr_2) mf_X12_isThere (recv_X12 Γ hI) gw_255 rfl rfl ⟨Nat.le_of_ble_eq_true rfl, Nat.le_of_ble_eq_true rfl⟩ rfl hl.1 rfl (Nat.le_of_ble_eq_true rfl) dX12_part_7 ⟨Nat.zero_le _, Nat.zero_le _⟩) (fun H locs hI => ?_)
  clear hr_2
  refine lv_if_eq (tgt := 33) Γ.1.1 Γ.1.2.1 dX12_part_10 (by decide) (fun c_4 => ?_) (fun c_4 => ?_)
  · replace h := ite_pos c_4 h; clear c_4
    refine lv_iconst (v := (-1 : Int32)) Γ.1.1 Γ.1.2.1 dX12_part_33 (by decide) ?_
    exact g_iret Γ hI dX12_part_34 (Prod.mk.inj (Option.some.inj h)).1 (Prod.mk.inj (Option.some.inj h)).2
  · replace h := ite_neg c_4 h; clear c_4
    refine lv_aload_n Γ.1.1 Γ.1.2.1 dX12_part_13 rfl (lv_at hl 0 rfl) ?_
    refine lv_iload_n Γ.1.1 Γ.1.2.1 dX12_part_14 rfl (lv_at hl 2 rfl) ?_
    obtain ⟨r_5, hr_5, h⟩ := ob_some h
    refine g_ci Γ hI (g_runV (As := [.int v2]) Γ hI (S_X12_isThere l X σ_1 v2 r_5 hr_5) mf_X12_isThere (recv_X12 Γ hI) gw_255 rfl rfl ⟨Nat.le_of_ble_eq_true rfl, Nat.le_of_ble_eq_true rfl⟩ rfl hl.1 rfl (Nat.le_of_ble_eq_true rfl) dX12_part_15 ⟨Nat.zero_le _, Nat.zero_le _⟩) (fun H locs hI => ?_)
    clear hr_5
    refine lv_if_eq (tgt := 33) Γ.1.1 Γ.1.2.1 dX12_part_18 (by decide) (fun c_7 => ?_) (fun c_7 => ?_)
    · replace h := ite_pos c_7 h; clear c_7
      refine lv_iconst (v := (-1 : Int32)) Γ.1.1 Γ.1.2.1 dX12_part_33 (by decide) ?_
      exact g_iret Γ hI dX12_part_34 (Prod.mk.inj (Option.some.inj h)).1 (Prod.mk.inj (Option.some.inj h)).2
    · replace h := ite_neg c_7 h; clear c_7
      refine lv_aload_n Γ.1.1 Γ.1.2.1 dX12_part_21 rfl (lv_at hl 0 rfl) ?_
      refine get_X12_now Γ hI gw_244 dX12_part_22 ?_
      refine lv_iload_n Γ.1.1 Γ.1.2.1 dX12_part_25 rfl (lv_at hl 1 rfl) ?_
      refine lv_iload_n Γ.1.1 Γ.1.2.1 dX12_part_26 rfl (lv_at hl 2 rfl) ?_
      obtain ⟨r_8, hr_8, h⟩ := ob_some h
      refine g_ci Γ hI (g_runS (As := [.ref (X.2.1 + 62), .int v1, .int v2]) Γ hI (S_X12_between l X σ_1 62 sh_62 v1 v2 r_8 hr_8) mf_X12_between gw_232 rfl rfl ⟨Nat.le_of_ble_eq_true rfl, Nat.le_of_ble_eq_true rfl⟩ rfl hl.1 rfl (Nat.le_of_ble_eq_true rfl) dX12_part_27 ⟨Nat.zero_le _, Nat.zero_le _⟩) (fun H locs hI => ?_)
      clear hr_8
      refine lv_if_ne (tgt := 35) Γ.1.1 Γ.1.2.1 dX12_part_30 (by decide) (fun c_10 => ?_) (fun c_10 => ?_)
      · replace h := ite_neg c_10 h; clear c_10
        refine lv_aload_n Γ.1.1 Γ.1.2.1 dX12_part_35 rfl (lv_at hl 0 rfl) ?_
        obtain ⟨σ_12, hr_11, h⟩ := ob_some h
        refine g_cv Γ hI (g_runV (As := []) Γ hI (S_X12_snap l X σ_1 σ_12 hr_11) mf_X12_snap (recv_X12 Γ hI) gw_286 rfl rfl ⟨Nat.le_of_ble_eq_true rfl, Nat.le_of_ble_eq_true rfl⟩ rfl hl.1 rfl (Nat.le_of_ble_eq_true rfl) dX12_part_36 ⟨Nat.zero_le _, Nat.zero_le _⟩) (fun H locs hI => ?_)
        clear hr_11
        refine lv_aload_n Γ.1.1 Γ.1.2.1 dX12_part_39 rfl (lv_at hl 0 rfl) ?_
        refine get_X12_now Γ hI gw_244 dX12_part_40 ?_
        refine lv_iload_n Γ.1.1 Γ.1.2.1 dX12_part_43 rfl (lv_at hl 1 rfl) ?_
        refine lv_iload_n Γ.1.1 Γ.1.2.1 dX12_part_44 rfl (lv_at hl 2 rfl) ?_
        refine lv_iconst (v := (-1 : Int32)) Γ.1.1 Γ.1.2.1 dX12_part_45 (by decide) ?_
        obtain ⟨σ_14, hr_13, h⟩ := ob_some h
        refine g_cv Γ hI (g_runS (As := [.ref (X.2.1 + 62), .int v1, .int v2, .int (-1 : Int32)]) Γ hI (S_X12_adds l X σ_12 62 sh_62 v1 v2 (-1 : Int32) σ_14 hr_13) mf_X12_adds gw_243 rfl rfl ⟨Nat.le_of_ble_eq_true rfl, Nat.le_of_ble_eq_true rfl⟩ rfl hl.1 rfl (Nat.le_of_ble_eq_true rfl) dX12_part_46 ⟨Nat.zero_le _, Nat.zero_le _⟩) (fun H locs hI => ?_)
        clear hr_13
        refine lv_aload_n Γ.1.1 Γ.1.2.1 dX12_part_49 rfl (lv_at hl 0 rfl) ?_
        refine get_X12_now Γ hI gw_244 dX12_part_50 ?_
        refine lv_iload_n Γ.1.1 Γ.1.2.1 dX12_part_53 rfl (lv_at hl 1 rfl) ?_
        refine lv_iload_n Γ.1.1 Γ.1.2.1 dX12_part_54 rfl (lv_at hl 2 rfl) ?_
        obtain ⟨r_15, hr_15, h⟩ := ob_some h
        refine g_ci Γ hI (g_runS (As := [.ref (X.2.1 + 62), .int v1, .int v2]) Γ hI (S_X12_between l X σ_14 62 sh_62 v1 v2 r_15 hr_15) mf_X12_between gw_232 rfl rfl ⟨Nat.le_of_ble_eq_true rfl, Nat.le_of_ble_eq_true rfl⟩ rfl hl.1 rfl (Nat.le_of_ble_eq_true rfl) dX12_part_55 ⟨Nat.zero_le _, Nat.zero_le _⟩) (fun H locs hI => ?_)
        clear hr_15
        exact g_iret Γ hI dX12_part_58 (Prod.mk.inj (Option.some.inj h)).1 (Prod.mk.inj (Option.some.inj h)).2
      · replace h := ite_pos c_10 h; clear c_10
        refine lv_iconst (v := (-1 : Int32)) Γ.1.1 Γ.1.2.1 dX12_part_33 (by decide) ?_
        exact g_iret Γ hI dX12_part_34 (Prod.mk.inj (Option.some.inj h)).1 (Prod.mk.inj (Option.some.inj h)).2
set_option maxRecDepth 20000 in
set_option maxHeartbeats 4000000 in
theorem S_X12_weigh (l : Launch) (X : GX) (σ : GM) (v1 : Int32) (v2 : Int32) (σr : GM) (x : Int32) (h : f_X12_weigh σ v1 v2 = some (σr, x)) : gMet l yX12_weigh cX12_weigh 3 (some .int) ({ frames := 2, cells := 0, slots := 0, locals := 45 } : Room) X σ [.ref (X.2.1 + 60), .int v1, .int v2] (gQi X σr x) := by
  unfold f_X12_weigh at h
  refine gMet_of (lv := [(0, .ref (X.2.1 + 60)), (1, .int v1), (2, .int v2)]) (by decide) rfl (Nat.le_of_ble_eq_true rfl) rfl (fun p e s m below meth c H ls Γ hI hl => ?_)
  refine lv_aload_n Γ.1.1 Γ.1.2.1 dX12_weigh_0 rfl (lv_at hl 0 rfl) ?_
  refine lv_iconst (v := (0 : Int32)) Γ.1.1 Γ.1.2.1 dX12_weigh_1 (by decide) ?_
  refine put_X12_thrown Γ hI gw_211 dX12_weigh_2 (fun H locs hI => ?_)
  obtain ⟨σ_1, e_m_1, h⟩ := nm_some h
  rw [← e_m_1] at hI; clear e_m_1
  refine lv_aload_n Γ.1.1 Γ.1.2.1 dX12_weigh_5 rfl (lv_at hl 0 rfl) ?_
  refine lv_iload_n Γ.1.1 Γ.1.2.1 dX12_weigh_6 rfl (lv_at hl 1 rfl) ?_
  obtain ⟨r_2, hr_2, h⟩ := ob_some h
  refine g_ci Γ hI (g_runV (As := [.int v1]) Γ hI (S_X12_isThere l X σ_1 v1 r_2 hr_2) mf_X12_isThere (recv_X12 Γ hI) gw_255 rfl rfl ⟨Nat.le_of_ble_eq_true rfl, Nat.le_of_ble_eq_true rfl⟩ rfl hl.1 rfl (Nat.le_of_ble_eq_true rfl) dX12_weigh_7 ⟨Nat.zero_le _, Nat.zero_le _⟩) (fun H locs hI => ?_)
  clear hr_2
  refine lv_if_eq (tgt := 23) Γ.1.1 Γ.1.2.1 dX12_weigh_10 (by decide) (fun c_4 => ?_) (fun c_4 => ?_)
  · replace h := ite_pos c_4 h; clear c_4
    refine lv_iconst (v := (-1 : Int32)) Γ.1.1 Γ.1.2.1 dX12_weigh_23 (by decide) ?_
    exact g_iret Γ hI dX12_weigh_24 (Prod.mk.inj (Option.some.inj h)).1 (Prod.mk.inj (Option.some.inj h)).2
  · replace h := ite_neg c_4 h; clear c_4
    refine lv_iload_n Γ.1.1 Γ.1.2.1 dX12_weigh_13 rfl (lv_at hl 2 rfl) ?_
    refine lv_iconst (v := (1 : Int32)) Γ.1.1 Γ.1.2.1 dX12_weigh_14 (by decide) ?_
    refine lv_bipush (v := (9 : Int32)) Γ.1.1 Γ.1.2.1 dX12_weigh_15 (by decide) ?_
    obtain ⟨r_5, hr_5, h⟩ := ob_some h
    refine g_ci Γ hI (g_runS (As := [.int v2, .int (1 : Int32), .int (9 : Int32)]) Γ hI (S_X12_isIn l X σ_1 v2 (1 : Int32) (9 : Int32) r_5 hr_5) mf_X12_isIn gw_239 rfl rfl ⟨Nat.le_of_ble_eq_true rfl, Nat.le_of_ble_eq_true rfl⟩ rfl hl.1 rfl (Nat.le_of_ble_eq_true rfl) dX12_weigh_17 ⟨Nat.zero_le _, Nat.zero_le _⟩) (fun H locs hI => ?_)
    clear hr_5
    refine lv_if_ne (tgt := 25) Γ.1.1 Γ.1.2.1 dX12_weigh_20 (by decide) (fun c_7 => ?_) (fun c_7 => ?_)
    · replace h := ite_neg c_7 h; clear c_7
      refine lv_aload_n Γ.1.1 Γ.1.2.1 dX12_weigh_25 rfl (lv_at hl 0 rfl) ?_
      refine get_X12_now Γ hI gw_244 dX12_weigh_26 ?_
      refine lv_iconst (v := (3 : Int32)) Γ.1.1 Γ.1.2.1 dX12_weigh_29 (by decide) ?_
      refine lv_iload_n Γ.1.1 Γ.1.2.1 dX12_weigh_30 rfl (lv_at hl 1 rfl) ?_
      refine lv_iadd Γ.1.1 Γ.1.2.1 dX12_weigh_31 ?_
      refine lv_topi (fun i_8 e_i_8 => ?_)
      replace h := nm_at e_i_8 h; clear e_i_8
      obtain ⟨hb_9, h⟩ := bnd_some h
      refine g_iald Γ hI sh_62 hb_9 dX12_weigh_32 ?_
      refine lv_iload_n Γ.1.1 Γ.1.2.1 dX12_weigh_33 rfl (lv_at hl 2 rfl) ?_
      refine lv_icmp_ne (tgt := 39) Γ.1.1 Γ.1.2.1 dX12_weigh_34 (by decide) (fun c_10 => ?_) (fun c_10 => ?_)
      · replace h := ite_neg c_10 h; clear c_10
        refine lv_aload_n Γ.1.1 Γ.1.2.1 dX12_weigh_39 rfl (lv_at hl 0 rfl) ?_
        obtain ⟨σ_12, hr_11, h⟩ := ob_some h
        refine g_cv Γ hI (g_runV (As := []) Γ hI (S_X12_snap l X σ_1 σ_12 hr_11) mf_X12_snap (recv_X12 Γ hI) gw_286 rfl rfl ⟨Nat.le_of_ble_eq_true rfl, Nat.le_of_ble_eq_true rfl⟩ rfl hl.1 rfl (Nat.le_of_ble_eq_true rfl) dX12_weigh_40 ⟨Nat.zero_le _, Nat.zero_le _⟩) (fun H locs hI => ?_)
        clear hr_11
        refine lv_aload_n Γ.1.1 Γ.1.2.1 dX12_weigh_43 rfl (lv_at hl 0 rfl) ?_
        refine get_X12_now Γ hI gw_244 dX12_weigh_44 ?_
        refine lv_iconst (v := (3 : Int32)) Γ.1.1 Γ.1.2.1 dX12_weigh_47 (by decide) ?_
        refine lv_iload_n Γ.1.1 Γ.1.2.1 dX12_weigh_48 rfl (lv_at hl 1 rfl) ?_
        refine lv_iadd Γ.1.1 Γ.1.2.1 dX12_weigh_49 ?_
        refine lv_iload_n Γ.1.1 Γ.1.2.1 dX12_weigh_50 rfl (lv_at hl 2 rfl) ?_
        obtain ⟨hb_13, h⟩ := bnd_some h
        refine g_iast Γ hI sh_62 hb_13 dX12_weigh_51 (fun H locs hI => ?_)
        obtain ⟨σ_14, e_m_14, h⟩ := nm_some h
        rw [← e_m_14] at hI; clear e_m_14
        refine lv_iconst (v := (0 : Int32)) Γ.1.1 Γ.1.2.1 dX12_weigh_52 (by decide) ?_
        exact g_iret Γ hI dX12_weigh_53 (Prod.mk.inj (Option.some.inj h)).1 (Prod.mk.inj (Option.some.inj h)).2
      · replace h := ite_pos c_10 h; clear c_10
        refine lv_iconst (v := (1 : Int32)) Γ.1.1 Γ.1.2.1 dX12_weigh_37 (by decide) ?_
        exact g_iret Γ hI dX12_weigh_38 (Prod.mk.inj (Option.some.inj h)).1 (Prod.mk.inj (Option.some.inj h)).2
    · replace h := ite_pos c_7 h; clear c_7
      refine lv_iconst (v := (-1 : Int32)) Γ.1.1 Γ.1.2.1 dX12_weigh_23 (by decide) ?_
      exact g_iret Γ hI dX12_weigh_24 (Prod.mk.inj (Option.some.inj h)).1 (Prod.mk.inj (Option.some.inj h)).2
set_option maxRecDepth 20000 in
set_option maxHeartbeats 4000000 in
theorem S_X12_draw (l : Launch) (X : GX) (σ : GM) (v1 : Int32) (σr : GM) (x : Int32) (h : f_X12_draw σ v1 = some (σr, x)) : gMet l yX12_draw cX12_draw 2 (some .int) ({ frames := 0, cells := 0, slots := 0, locals := 0 } : Room) X σ [.ref (X.2.1 + 60), .int v1] (gQi X σr x) := by
  unfold f_X12_draw at h
  refine gMet_of (lv := [(0, .ref (X.2.1 + 60)), (1, .int v1)]) (by decide) rfl (Nat.le_of_ble_eq_true rfl) rfl (fun p e s m below meth c H ls Γ hI hl => ?_)
  refine lv_aload_n Γ.1.1 Γ.1.2.1 dX12_draw_0 rfl (lv_at hl 0 rfl) ?_
  refine lv_aload_n Γ.1.1 Γ.1.2.1 dX12_draw_1 rfl (lv_at hl 0 rfl) ?_
  refine get_X12_seed Γ hI gw_296 dX12_draw_2 ?_
  refine lv_ldcw (v := (1103515245 : Int32)) Γ.1.1 Γ.1.2.1 Γ.1.2.2.2.1 (Γ.1.2.2.2.2 _ gw_297) dX12_draw_5 ?_
  refine lv_imul Γ.1.1 Γ.1.2.1 dX12_draw_8 ?_
  refine lv_sipush (v := (12345 : Int32)) Γ.1.1 Γ.1.2.1 dX12_draw_9 (by decide) ?_
  refine lv_iadd Γ.1.1 Γ.1.2.1 dX12_draw_12 ?_
  refine put_X12_seed Γ hI gw_296 dX12_draw_13 (fun H locs hI => ?_)
  obtain ⟨σ_1, e_m_1, h⟩ := nm_some h
  rw [← e_m_1] at hI; clear e_m_1
  refine lv_aload_n Γ.1.1 Γ.1.2.1 dX12_draw_16 rfl (lv_at hl 0 rfl) ?_
  refine get_X12_seed Γ hI gw_296 dX12_draw_17 ?_
  refine lv_bipush (v := (8 : Int32)) Γ.1.1 Γ.1.2.1 dX12_draw_20 (by decide) ?_
  refine lv_iushr (v := (jushr (σ_1.1 60 29) (8 : Int32))) Γ.1.1 Γ.1.2.1 dX12_draw_22 rfl ?_
  refine lv_iload_n Γ.1.1 Γ.1.2.1 dX12_draw_23 rfl (lv_at hl 1 rfl) ?_
  obtain ⟨hz_2, h⟩ := nz_some h
  refine lv_irem Γ.1.1 Γ.1.2.1 dX12_draw_24 hz_2 ?_
  exact g_iret Γ hI dX12_draw_25 (Prod.mk.inj (Option.some.inj h)).1 (Prod.mk.inj (Option.some.inj h)).2
set_option maxRecDepth 20000 in
set_option maxHeartbeats 4000000 in
theorem s_X12_does_L157 {p : Program} {l : Launch} {e : Env} {s : State} {m : MethodId} {args : Array Value} {below : List Frame} {meth : Method} {c : Code} {X : GX} (σr : GM) (x : Int32) (Γ : gC X p m meth c cX12_does 5 s args RX12 (some .boolean)) :
    ∀ (σ : GM) (v1 : Int32) (v3 : Int32) (v4 : Int32) (H : Heap) (locs : List Loc) (ls : Array Slot), gI X σ s H locs → lv_has ls 5 [(0, .ref (X.2.1 + 60)), (1, .int v1), (3, .int v3), (4, .int v4)] → f_X12_does_L157 σ v1 v3 v4 = some (σr, x) →
    W p l e ({ frames := 4, cells := 0, slots := 0, locals := 91 } : Room) s m args below meth c H locs 0 0 (MQ below (gQi X σr x) args s 0 0 (gA X)) (F0 m 157 ls []) := by
  intro σ v1 v3 v4 H locs ls hI hl h
  unfold f_X12_does_L157 at h
  refine lv_aload_n Γ.1.1 Γ.1.2.1 dX12_does_157 rfl (lv_at hl 0 rfl) ?_
  refine get_X12_now Γ hI gw_244 dX12_does_158 ?_
  refine lv_iload_n Γ.1.1 Γ.1.2.1 dX12_does_161 rfl (lv_at hl 2 rfl) ?_
  refine lv_iload Γ.1.1 Γ.1.2.1 dX12_does_162 (lv_at hl 3 rfl) ?_
  refine lv_iload_n Γ.1.1 Γ.1.2.1 dX12_does_164 rfl (lv_at hl 1 rfl) ?_
  refine lv_iconst (v := (2 : Int32)) Γ.1.1 Γ.1.2.1 dX12_does_165 (by decide) ?_
  refine lv_icmp_ne (tgt := 173) Γ.1.1 Γ.1.2.1 dX12_does_166 (by decide) (fun c_22 => ?_) (fun c_22 => ?_)
  · replace h := ite_neg c_22 h; clear c_22
    refine lv_iconst (v := (1 : Int32)) Γ.1.1 Γ.1.2.1 dX12_does_173 (by decide) ?_
    obtain ⟨σ_24, hr_23, h⟩ := ob_some h
    refine g_cv Γ hI (g_runS (As := [.ref (X.2.1 + 62), .int v3, .int v4, .int (1 : Int32)]) Γ hI (S_X12_adds l X σ 62 sh_62 v3 v4 (1 : Int32) σ_24 hr_23) mf_X12_adds gw_243 rfl rfl ⟨Nat.le_of_ble_eq_true rfl, Nat.le_of_ble_eq_true rfl⟩ rfl hl.1 rfl (Nat.le_of_ble_eq_true rfl) dX12_does_174 ⟨Nat.zero_le _, Nat.zero_le _⟩) (fun H locs hI => ?_)
    clear hr_23
    refine lv_iconst (v := (1 : Int32)) Γ.1.1 Γ.1.2.1 dX12_does_177 (by decide) ?_
    exact g_zret Γ hI dX12_does_178 (Prod.mk.inj (Option.some.inj h)).1 (Prod.mk.inj (Option.some.inj h)).2
  · replace h := ite_pos c_22 h; clear c_22
    refine lv_iconst (v := (-1 : Int32)) Γ.1.1 Γ.1.2.1 dX12_does_169 (by decide) ?_
    refine lv_goto (tgt := 174) Γ.1.1 Γ.1.2.1 dX12_does_170 (by decide) ?_
    obtain ⟨σ_26, hr_25, h⟩ := ob_some h
    refine g_cv Γ hI (g_runS (As := [.ref (X.2.1 + 62), .int v3, .int v4, .int (-1 : Int32)]) Γ hI (S_X12_adds l X σ 62 sh_62 v3 v4 (-1 : Int32) σ_26 hr_25) mf_X12_adds gw_243 rfl rfl ⟨Nat.le_of_ble_eq_true rfl, Nat.le_of_ble_eq_true rfl⟩ rfl hl.1 rfl (Nat.le_of_ble_eq_true rfl) dX12_does_174 ⟨Nat.zero_le _, Nat.zero_le _⟩) (fun H locs hI => ?_)
    clear hr_25
    refine lv_iconst (v := (1 : Int32)) Γ.1.1 Γ.1.2.1 dX12_does_177 (by decide) ?_
    exact g_zret Γ hI dX12_does_178 (Prod.mk.inj (Option.some.inj h)).1 (Prod.mk.inj (Option.some.inj h)).2
set_option maxRecDepth 20000 in
set_option maxHeartbeats 4000000 in
theorem S_X12_does (l : Launch) (X : GX) (σ : GM) (σr : GM) (x : Int32) (h : f_X12_does σ = some (σr, x)) : gMet l yX12_does cX12_does 5 (some .boolean) ({ frames := 4, cells := 0, slots := 0, locals := 91 } : Room) X σ [.ref (X.2.1 + 60)] (gQi X σr x) := by
  unfold f_X12_does at h
  refine gMet_of (lv := [(0, .ref (X.2.1 + 60))]) (by decide) rfl (Nat.le_of_ble_eq_true rfl) rfl (fun p e s m below meth c H ls Γ hI hl => ?_)
  refine lv_aload_n Γ.1.1 Γ.1.2.1 dX12_does_0 rfl (lv_at hl 0 rfl) ?_
  refine lv_bipush (v := (8 : Int32)) Γ.1.1 Γ.1.2.1 dX12_does_1 (by decide) ?_
  obtain ⟨σ_2, r_1, hr_1, h⟩ := ob2_some h
  refine g_ci Γ hI (g_runV (As := [.int (8 : Int32)]) Γ hI (S_X12_draw l X σ (8 : Int32) σ_2 r_1 hr_1) mf_X12_draw (recv_X12 Γ hI) gw_298 rfl rfl ⟨Nat.le_of_ble_eq_true rfl, Nat.le_of_ble_eq_true rfl⟩ rfl hl.1 rfl (Nat.le_of_ble_eq_true rfl) dX12_does_3 ⟨Nat.zero_le _, Nat.zero_le _⟩) (fun H locs hI => ?_)
  clear hr_1
  refine lv_istore_n (lv' := [(1, .int r_1), (0, .ref (X.2.1 + 60))]) Γ.1.1 Γ.1.2.1 dX12_does_6 rfl hl (by decide) rfl (fun ls hl => ?_)
  refine lv_aload_n Γ.1.1 Γ.1.2.1 dX12_does_7 rfl (lv_at hl 1 rfl) ?_
  refine get_X12_now Γ hI gw_244 dX12_does_8 ?_
  refine lv_iconst (v := (0 : Int32)) Γ.1.1 Γ.1.2.1 dX12_does_11 (by decide) ?_
  obtain ⟨hb_3, h⟩ := bnd_some h
  refine g_iald Γ hI sh_62 hb_3 dX12_does_12 ?_
  refine lv_topi (fun v2_4 e_v2_4 => ?_)
  replace h := nm_at e_v2_4 h; clear e_v2_4
  refine lv_istore_n (lv' := [(2, .int v2_4), (1, .int r_1), (0, .ref (X.2.1 + 60))]) Γ.1.1 Γ.1.2.1 dX12_does_13 rfl hl (by decide) rfl (fun ls hl => ?_)
  refine lv_iload_n Γ.1.1 Γ.1.2.1 dX12_does_14 rfl (lv_at hl 0 rfl) ?_
  refine lv_if_ne (tgt := 20) Γ.1.1 Γ.1.2.1 dX12_does_15 (by decide) (fun c_5 => ?_) (fun c_5 => ?_)
  · replace h := ite_neg c_5 h; clear c_5
    refine lv_aload_n Γ.1.1 Γ.1.2.1 dX12_does_20 rfl (lv_at hl 2 rfl) ?_
    refine lv_iload_n Γ.1.1 Γ.1.2.1 dX12_does_21 rfl (lv_at hl 0 rfl) ?_
    obtain ⟨σ_7, r_6, hr_6, h⟩ := ob2_some h
    refine g_ci Γ hI (g_runV (As := [.int v2_4]) Γ hI (S_X12_draw l X σ_2 v2_4 σ_7 r_6 hr_6) mf_X12_draw (recv_X12 Γ hI) gw_298 rfl rfl ⟨Nat.le_of_ble_eq_true rfl, Nat.le_of_ble_eq_true rfl⟩ rfl hl.1 rfl (Nat.le_of_ble_eq_true rfl) dX12_does_22 ⟨Nat.zero_le _, Nat.zero_le _⟩) (fun H locs hI => ?_)
    clear hr_6
    refine lv_istore_n (lv' := [(3, .int r_6), (2, .int v2_4), (1, .int r_1), (0, .ref (X.2.1 + 60))]) Γ.1.1 Γ.1.2.1 dX12_does_25 rfl hl (by decide) rfl (fun ls hl => ?_)
    refine lv_iload_n Γ.1.1 Γ.1.2.1 dX12_does_26 rfl (lv_at hl 2 rfl) ?_
    refine lv_if_ne (tgt := 50) Γ.1.1 Γ.1.2.1 dX12_does_27 (by decide) (fun c_8 => ?_) (fun c_8 => ?_)
    · replace h := ite_neg c_8 h; clear c_8
      refine lv_iload_n Γ.1.1 Γ.1.2.1 dX12_does_50 rfl (lv_at hl 2 rfl) ?_
      refine lv_iconst (v := (1 : Int32)) Γ.1.1 Γ.1.2.1 dX12_does_51 (by decide) ?_
      refine lv_icmp_ne (tgt := 100) Γ.1.1 Γ.1.2.1 dX12_does_52 (by decide) (fun c_9 => ?_) (fun c_9 => ?_)
      · replace h := ite_neg c_9 h; clear c_9
        refine lv_aload_n Γ.1.1 Γ.1.2.1 dX12_does_100 rfl (lv_at hl 3 rfl) ?_
        refine lv_iload_n Γ.1.1 Γ.1.2.1 dX12_does_101 rfl (lv_at hl 1 rfl) ?_
        obtain ⟨σ_11, r_10, hr_10, h⟩ := ob2_some h
        refine g_ci Γ hI (g_runV (As := [.int v2_4]) Γ hI (S_X12_draw l X σ_7 v2_4 σ_11 r_10 hr_10) mf_X12_draw (recv_X12 Γ hI) gw_298 rfl rfl ⟨Nat.le_of_ble_eq_true rfl, Nat.le_of_ble_eq_true rfl⟩ rfl hl.1 rfl (Nat.le_of_ble_eq_true rfl) dX12_does_102 ⟨Nat.zero_le _, Nat.zero_le _⟩) (fun H locs hI => ?_)
        clear hr_10
        refine lv_istore (lv' := [(4, .int r_10), (3, .int r_6), (2, .int v2_4), (1, .int r_1), (0, .ref (X.2.1 + 60))]) Γ.1.1 Γ.1.2.1 dX12_does_105 hl (by decide) rfl (fun ls hl => ?_)
        refine lv_aload_n Γ.1.1 Γ.1.2.1 dX12_does_107 rfl (lv_at hl 4 rfl) ?_
        refine lv_iload_n Γ.1.1 Γ.1.2.1 dX12_does_108 rfl (lv_at hl 1 rfl) ?_
        obtain ⟨r_12, hr_12, h⟩ := ob_some h
        refine g_ci Γ hI (g_runV (As := [.int r_6]) Γ hI (S_X12_isThere l X σ_11 r_6 r_12 hr_12) mf_X12_isThere (recv_X12 Γ hI) gw_255 rfl rfl ⟨Nat.le_of_ble_eq_true rfl, Nat.le_of_ble_eq_true rfl⟩ rfl hl.1 rfl (Nat.le_of_ble_eq_true rfl) dX12_does_109 ⟨Nat.zero_le _, Nat.zero_le _⟩) (fun H locs hI => ?_)
        clear hr_12
        refine lv_if_eq (tgt := 155) Γ.1.1 Γ.1.2.1 dX12_does_112 (by decide) (fun c_14 => ?_) (fun c_14 => ?_)
        · replace h := ite_pos c_14 h; clear c_14
          refine lv_iconst (v := (0 : Int32)) Γ.1.1 Γ.1.2.1 dX12_does_155 (by decide) ?_
          exact g_zret Γ hI dX12_does_156 (Prod.mk.inj (Option.some.inj h)).1 (Prod.mk.inj (Option.some.inj h)).2
        · replace h := ite_neg c_14 h; clear c_14
          refine lv_aload_n Γ.1.1 Γ.1.2.1 dX12_does_115 rfl (lv_at hl 4 rfl) ?_
          refine lv_iload Γ.1.1 Γ.1.2.1 dX12_does_116 (lv_at hl 0 rfl) ?_
          obtain ⟨r_15, hr_15, h⟩ := ob_some h
          refine g_ci Γ hI (g_runV (As := [.int r_10]) Γ hI (S_X12_isThere l X σ_11 r_10 r_15 hr_15) mf_X12_isThere (recv_X12 Γ hI) gw_255 rfl rfl ⟨Nat.le_of_ble_eq_true rfl, Nat.le_of_ble_eq_true rfl⟩ rfl hl.1 rfl (Nat.le_of_ble_eq_true rfl) dX12_does_118 ⟨Nat.zero_le _, Nat.zero_le _⟩) (fun H locs hI => ?_)
          clear hr_15
          refine lv_if_eq (tgt := 155) Γ.1.1 Γ.1.2.1 dX12_does_121 (by decide) (fun c_17 => ?_) (fun c_17 => ?_)
          · replace h := ite_pos c_17 h; clear c_17
            refine lv_iconst (v := (0 : Int32)) Γ.1.1 Γ.1.2.1 dX12_does_155 (by decide) ?_
            exact g_zret Γ hI dX12_does_156 (Prod.mk.inj (Option.some.inj h)).1 (Prod.mk.inj (Option.some.inj h)).2
          · replace h := ite_neg c_17 h; clear c_17
            refine lv_iload_n Γ.1.1 Γ.1.2.1 dX12_does_124 rfl (lv_at hl 3 rfl) ?_
            refine lv_iconst (v := (2 : Int32)) Γ.1.1 Γ.1.2.1 dX12_does_125 (by decide) ?_
            refine lv_icmp_ne (tgt := 145) Γ.1.1 Γ.1.2.1 dX12_does_126 (by decide) (fun c_18 => ?_) (fun c_18 => ?_)
            · replace h := ite_neg c_18 h; clear c_18
              refine lv_aload_n Γ.1.1 Γ.1.2.1 dX12_does_145 rfl (lv_at hl 4 rfl) ?_
              refine lv_iload_n Γ.1.1 Γ.1.2.1 dX12_does_146 rfl (lv_at hl 1 rfl) ?_
              refine lv_iload Γ.1.1 Γ.1.2.1 dX12_does_147 (lv_at hl 0 rfl) ?_
              obtain ⟨r_19, hr_19, h⟩ := ob_some h
              refine g_ci Γ hI (g_runV (As := [.int r_6, .int r_10]) Γ hI (S_X12_mayJoin l X σ_11 r_6 r_10 r_19 hr_19) mf_X12_mayJoin (recv_X12 Γ hI) gw_295 rfl rfl ⟨Nat.le_of_ble_eq_true rfl, Nat.le_of_ble_eq_true rfl⟩ rfl hl.1 rfl (Nat.le_of_ble_eq_true rfl) dX12_does_149 ⟨Nat.zero_le _, Nat.zero_le _⟩) (fun H locs hI => ?_)
              clear hr_19
              refine lv_if_ne (tgt := 157) Γ.1.1 Γ.1.2.1 dX12_does_152 (by decide) (fun c_21 => ?_) (fun c_21 => ?_)
              · replace h := ite_neg c_21 h; clear c_21
                exact s_X12_does_L157 σr x Γ σ_11 r_1 r_6 r_10 _ _ _ hI (lv_sub hl [4, 3, 1, 0] rfl) h
              · replace h := ite_pos c_21 h; clear c_21
                refine lv_iconst (v := (0 : Int32)) Γ.1.1 Γ.1.2.1 dX12_does_155 (by decide) ?_
                exact g_zret Γ hI dX12_does_156 (Prod.mk.inj (Option.some.inj h)).1 (Prod.mk.inj (Option.some.inj h)).2
            · replace h := ite_pos c_18 h; clear c_18
              refine lv_aload_n Γ.1.1 Γ.1.2.1 dX12_does_129 rfl (lv_at hl 4 rfl) ?_
              refine get_X12_now Γ hI gw_244 dX12_does_130 ?_
              refine lv_iload_n Γ.1.1 Γ.1.2.1 dX12_does_133 rfl (lv_at hl 1 rfl) ?_
              refine lv_iload Γ.1.1 Γ.1.2.1 dX12_does_134 (lv_at hl 0 rfl) ?_
              obtain ⟨r_27, hr_27, h⟩ := ob_some h
              refine g_ci Γ hI (g_runS (As := [.ref (X.2.1 + 62), .int r_6, .int r_10]) Γ hI (S_X12_between l X σ_11 62 sh_62 r_6 r_10 r_27 hr_27) mf_X12_between gw_232 rfl rfl ⟨Nat.le_of_ble_eq_true rfl, Nat.le_of_ble_eq_true rfl⟩ rfl hl.1 rfl (Nat.le_of_ble_eq_true rfl) dX12_does_136 ⟨Nat.zero_le _, Nat.zero_le _⟩) (fun H locs hI => ?_)
              clear hr_27
              refine lv_if_ne (tgt := 157) Γ.1.1 Γ.1.2.1 dX12_does_139 (by decide) (fun c_29 => ?_) (fun c_29 => ?_)
              · replace h := ite_neg c_29 h; clear c_29
                exact s_X12_does_L157 σr x Γ σ_11 r_1 r_6 r_10 _ _ _ hI (lv_sub hl [4, 3, 1, 0] rfl) h
              · replace h := ite_pos c_29 h; clear c_29
                refine lv_goto (tgt := 155) Γ.1.1 Γ.1.2.1 dX12_does_142 (by decide) ?_
                refine lv_iconst (v := (0 : Int32)) Γ.1.1 Γ.1.2.1 dX12_does_155 (by decide) ?_
                exact g_zret Γ hI dX12_does_156 (Prod.mk.inj (Option.some.inj h)).1 (Prod.mk.inj (Option.some.inj h)).2
      · replace h := ite_pos c_9 h; clear c_9
        refine lv_aload_n Γ.1.1 Γ.1.2.1 dX12_does_55 rfl (lv_at hl 3 rfl) ?_
        refine lv_bipush (v := (9 : Int32)) Γ.1.1 Γ.1.2.1 dX12_does_56 (by decide) ?_
        obtain ⟨σ_31, r_30, hr_30, h⟩ := ob2_some h
        refine g_ci Γ hI (g_runV (As := [.int (9 : Int32)]) Γ hI (S_X12_draw l X σ_7 (9 : Int32) σ_31 r_30 hr_30) mf_X12_draw (recv_X12 Γ hI) gw_298 rfl rfl ⟨Nat.le_of_ble_eq_true rfl, Nat.le_of_ble_eq_true rfl⟩ rfl hl.1 rfl (Nat.le_of_ble_eq_true rfl) dX12_does_58 ⟨Nat.zero_le _, Nat.zero_le _⟩) (fun H locs hI => ?_)
        clear hr_30
        refine lv_iconst (v := (1 : Int32)) Γ.1.1 Γ.1.2.1 dX12_does_61 (by decide) ?_
        refine lv_iadd Γ.1.1 Γ.1.2.1 dX12_does_62 ?_
        refine lv_topi (fun v4_32 e_v4_32 => ?_)
        replace h := nm_at e_v4_32 h; clear e_v4_32
        refine lv_istore (lv' := [(4, .int v4_32), (3, .int r_6), (2, .int v2_4), (1, .int r_1), (0, .ref (X.2.1 + 60))]) Γ.1.1 Γ.1.2.1 dX12_does_63 hl (by decide) rfl (fun ls hl => ?_)
        refine lv_aload_n Γ.1.1 Γ.1.2.1 dX12_does_65 rfl (lv_at hl 4 rfl) ?_
        refine lv_iload_n Γ.1.1 Γ.1.2.1 dX12_does_66 rfl (lv_at hl 1 rfl) ?_
        obtain ⟨r_33, hr_33, h⟩ := ob_some h
        refine g_ci Γ hI (g_runV (As := [.int r_6]) Γ hI (S_X12_isThere l X σ_31 r_6 r_33 hr_33) mf_X12_isThere (recv_X12 Γ hI) gw_255 rfl rfl ⟨Nat.le_of_ble_eq_true rfl, Nat.le_of_ble_eq_true rfl⟩ rfl hl.1 rfl (Nat.le_of_ble_eq_true rfl) dX12_does_67 ⟨Nat.zero_le _, Nat.zero_le _⟩) (fun H locs hI => ?_)
        clear hr_33
        refine lv_if_eq (tgt := 86) Γ.1.1 Γ.1.2.1 dX12_does_70 (by decide) (fun c_35 => ?_) (fun c_35 => ?_)
        · replace h := ite_pos c_35 h; clear c_35
          refine lv_iconst (v := (0 : Int32)) Γ.1.1 Γ.1.2.1 dX12_does_86 (by decide) ?_
          exact g_zret Γ hI dX12_does_87 (Prod.mk.inj (Option.some.inj h)).1 (Prod.mk.inj (Option.some.inj h)).2
        · replace h := ite_neg c_35 h; clear c_35
          refine lv_aload_n Γ.1.1 Γ.1.2.1 dX12_does_73 rfl (lv_at hl 4 rfl) ?_
          refine get_X12_now Γ hI gw_244 dX12_does_74 ?_
          refine lv_iconst (v := (3 : Int32)) Γ.1.1 Γ.1.2.1 dX12_does_77 (by decide) ?_
          refine lv_iload_n Γ.1.1 Γ.1.2.1 dX12_does_78 rfl (lv_at hl 1 rfl) ?_
          refine lv_iadd Γ.1.1 Γ.1.2.1 dX12_does_79 ?_
          refine lv_topi (fun i_36 e_i_36 => ?_)
          replace h := nm_at e_i_36 h; clear e_i_36
          obtain ⟨hb_37, h⟩ := bnd_some h
          refine g_iald Γ hI sh_62 hb_37 dX12_does_80 ?_
          refine lv_iload Γ.1.1 Γ.1.2.1 dX12_does_81 (lv_at hl 0 rfl) ?_
          refine lv_icmp_ne (tgt := 88) Γ.1.1 Γ.1.2.1 dX12_does_83 (by decide) (fun c_38 => ?_) (fun c_38 => ?_)
          · replace h := ite_neg c_38 h; clear c_38
            refine lv_aload_n Γ.1.1 Γ.1.2.1 dX12_does_88 rfl (lv_at hl 4 rfl) ?_
            refine get_X12_now Γ hI gw_244 dX12_does_89 ?_
            refine lv_iconst (v := (3 : Int32)) Γ.1.1 Γ.1.2.1 dX12_does_92 (by decide) ?_
            refine lv_iload_n Γ.1.1 Γ.1.2.1 dX12_does_93 rfl (lv_at hl 1 rfl) ?_
            refine lv_iadd Γ.1.1 Γ.1.2.1 dX12_does_94 ?_
            refine lv_iload Γ.1.1 Γ.1.2.1 dX12_does_95 (lv_at hl 0 rfl) ?_
            obtain ⟨hb_39, h⟩ := bnd_some h
            refine g_iast Γ hI sh_62 hb_39 dX12_does_97 (fun H locs hI => ?_)
            obtain ⟨σ_40, e_m_40, h⟩ := nm_some h
            rw [← e_m_40] at hI; clear e_m_40
            refine lv_iconst (v := (1 : Int32)) Γ.1.1 Γ.1.2.1 dX12_does_98 (by decide) ?_
            exact g_zret Γ hI dX12_does_99 (Prod.mk.inj (Option.some.inj h)).1 (Prod.mk.inj (Option.some.inj h)).2
          · replace h := ite_pos c_38 h; clear c_38
            refine lv_iconst (v := (0 : Int32)) Γ.1.1 Γ.1.2.1 dX12_does_86 (by decide) ?_
            exact g_zret Γ hI dX12_does_87 (Prod.mk.inj (Option.some.inj h)).1 (Prod.mk.inj (Option.some.inj h)).2
    · replace h := ite_pos c_8 h; clear c_8
      refine lv_aload_n Γ.1.1 Γ.1.2.1 dX12_does_30 rfl (lv_at hl 3 rfl) ?_
      refine lv_iload_n Γ.1.1 Γ.1.2.1 dX12_does_31 rfl (lv_at hl 0 rfl) ?_
      obtain ⟨r_41, hr_41, h⟩ := ob_some h
      refine g_ci Γ hI (g_runV (As := [.int r_6]) Γ hI (S_X12_isThere l X σ_7 r_6 r_41 hr_41) mf_X12_isThere (recv_X12 Γ hI) gw_255 rfl rfl ⟨Nat.le_of_ble_eq_true rfl, Nat.le_of_ble_eq_true rfl⟩ rfl hl.1 rfl (Nat.le_of_ble_eq_true rfl) dX12_does_32 ⟨Nat.zero_le _, Nat.zero_le _⟩) (fun H locs hI => ?_)
      clear hr_41
      refine lv_if_ne (tgt := 40) Γ.1.1 Γ.1.2.1 dX12_does_35 (by decide) (fun c_43 => ?_) (fun c_43 => ?_)
      · replace h := ite_neg c_43 h; clear c_43
        refine lv_aload_n Γ.1.1 Γ.1.2.1 dX12_does_40 rfl (lv_at hl 3 rfl) ?_
        refine get_X12_now Γ hI gw_244 dX12_does_41 ?_
        refine lv_iload_n Γ.1.1 Γ.1.2.1 dX12_does_44 rfl (lv_at hl 0 rfl) ?_
        obtain ⟨σ_45, hr_44, h⟩ := ob_some h
        refine g_cv Γ hI (g_runS (As := [.ref (X.2.1 + 62), .int r_6]) Γ hI (S_X12_leaves l X σ_7 62 sh_62 r_6 σ_45 hr_44) mf_X12_leaves gw_292 rfl rfl ⟨Nat.le_of_ble_eq_true rfl, Nat.le_of_ble_eq_true rfl⟩ rfl hl.1 rfl (Nat.le_of_ble_eq_true rfl) dX12_does_45 ⟨Nat.zero_le _, Nat.zero_le _⟩) (fun H locs hI => ?_)
        clear hr_44
        refine lv_iconst (v := (1 : Int32)) Γ.1.1 Γ.1.2.1 dX12_does_48 (by decide) ?_
        exact g_zret Γ hI dX12_does_49 (Prod.mk.inj (Option.some.inj h)).1 (Prod.mk.inj (Option.some.inj h)).2
      · replace h := ite_pos c_43 h; clear c_43
        refine lv_iconst (v := (0 : Int32)) Γ.1.1 Γ.1.2.1 dX12_does_38 (by decide) ?_
        exact g_zret Γ hI dX12_does_39 (Prod.mk.inj (Option.some.inj h)).1 (Prod.mk.inj (Option.some.inj h)).2
  · replace h := ite_pos c_5 h; clear c_5
    refine lv_iconst (v := (0 : Int32)) Γ.1.1 Γ.1.2.1 dX12_does_18 (by decide) ?_
    exact g_zret Γ hI dX12_does_19 (Prod.mk.inj (Option.some.inj h)).1 (Prod.mk.inj (Option.some.inj h)).2
set_option maxRecDepth 20000 in
set_option maxHeartbeats 4000000 in
theorem s_X12_drawn_L62 {p : Program} {l : Launch} {e : Env} {s : State} {m : MethodId} {args : Array Value} {below : List Frame} {meth : Method} {c : Code} {X : GX} (σr : GM) (x : Int32) (Γ : gC X p m meth c cX12_drawn 5 s args RX12 (some .int)) :
    ∀ (σ : GM) (v3 : Int32) (H : Heap) (locs : List Loc) (ls : Array Slot), gI X σ s H locs → lv_has ls 5 [(0, .ref (X.2.1 + 60)), (3, .int v3)] → f_X12_drawn_L62 σ v3 = some (σr, x) →
    W p l e ({ frames := 5, cells := 0, slots := 0, locals := 115 } : Room) s m args below meth c H locs 0 0 (MQ below (gQi X σr x) args s 0 0 (gA X)) (F0 m 62 ls []) := by
  intro σ v3 H locs ls hI hl h
  unfold f_X12_drawn_L62 at h
  refine lv_iload_n Γ.1.1 Γ.1.2.1 dX12_drawn_62 rfl (lv_at hl 1 rfl) ?_
  refine lv_if_le (tgt := 70) Γ.1.1 Γ.1.2.1 dX12_drawn_63 (by decide) (fun c_9 => ?_) (fun c_9 => ?_)
  · replace h := ite_pos c_9 h; clear c_9
    refine lv_iload_n Γ.1.1 Γ.1.2.1 dX12_drawn_70 rfl (lv_at hl 1 rfl) ?_
    exact g_iret Γ hI dX12_drawn_71 (Prod.mk.inj (Option.some.inj h)).1 (Prod.mk.inj (Option.some.inj h)).2
  · replace h := ite_neg c_9 h; clear c_9
    refine lv_aload_n Γ.1.1 Γ.1.2.1 dX12_drawn_66 rfl (lv_at hl 0 rfl) ?_
    obtain ⟨σ_11, hr_10, h⟩ := ob_some h
    refine g_cv Γ hI (g_runV (As := []) Γ hI (S_X12_stay l X σ σ_11 hr_10) mf_X12_stay (recv_X12 Γ hI) gw_294 rfl rfl ⟨Nat.le_of_ble_eq_true rfl, Nat.le_of_ble_eq_true rfl⟩ rfl hl.1 rfl (Nat.le_of_ble_eq_true rfl) dX12_drawn_67 ⟨Nat.zero_le _, Nat.zero_le _⟩) (fun H locs hI => ?_)
    clear hr_10
    refine lv_iload_n Γ.1.1 Γ.1.2.1 dX12_drawn_70 rfl (lv_at hl 1 rfl) ?_
    exact g_iret Γ hI dX12_drawn_71 (Prod.mk.inj (Option.some.inj h)).1 (Prod.mk.inj (Option.some.inj h)).2
set_option maxRecDepth 20000 in
set_option maxHeartbeats 4000000 in
theorem s_X12_drawn_L40 {p : Program} {l : Launch} {e : Env} {s : State} {m : MethodId} {args : Array Value} {below : List Frame} {meth : Method} {c : Code} {X : GX} (σr : GM) (x : Int32) (Γ : gC X p m meth c cX12_drawn 5 s args RX12 (some .int)) (v1 : Int32) :
    ∀ (k : Nat) (σ : GM) (v3 : Int32) (v4 : Int32) (H : Heap) (locs : List Loc) (ls : Array Slot), gI X σ s H locs → lv_has ls 5 [(0, .ref (X.2.1 + 60)), (1, .int v1), (3, .int v3), (4, .int v4)] → f_X12_drawn_L40 v1 k σ v3 v4 = some (σr, x) →
    W p l e ({ frames := 5, cells := 0, slots := 0, locals := 115 } : Room) s m args below meth c H locs 0 0 (MQ below (gQi X σr x) args s 0 0 (gA X)) (F0 m 40 ls []) := by
  intro k
  induction k with
  | zero =>
    intro σ v3 v4 H locs ls hI hl h
    exact absurd h (by simp [f_X12_drawn_L40])
  | succ k ih =>
    intro σ v3 v4 H locs ls hI hl h
    unfold f_X12_drawn_L40 at h
    refine lv_iload Γ.1.1 Γ.1.2.1 dX12_drawn_40 (lv_at hl 3 rfl) ?_
    refine lv_iload_n Γ.1.1 Γ.1.2.1 dX12_drawn_42 rfl (lv_at hl 1 rfl) ?_
    refine lv_icmp_ge (tgt := 62) Γ.1.1 Γ.1.2.1 dX12_drawn_43 (by decide) (fun c_8 => ?_) (fun c_8 => ?_)
    · replace h := ite_pos c_8 h; clear c_8
      exact s_X12_drawn_L62 σr x Γ σ v3 _ _ _ hI (lv_sub hl [0, 2] rfl) h
    · replace h := ite_neg c_8 h; clear c_8
      refine lv_aload_n Γ.1.1 Γ.1.2.1 dX12_drawn_46 rfl (lv_at hl 0 rfl) ?_
      obtain ⟨σ_13, r_12, hr_12, h⟩ := ob2_some h
      refine g_ci Γ hI (g_runV (As := []) Γ hI (S_X12_does l X σ σ_13 r_12 hr_12) mf_X12_does (recv_X12 Γ hI) gw_299 rfl rfl ⟨Nat.le_of_ble_eq_true rfl, Nat.le_of_ble_eq_true rfl⟩ rfl hl.1 rfl (Nat.le_of_ble_eq_true rfl) dX12_drawn_47 ⟨Nat.zero_le _, Nat.zero_le _⟩) (fun H locs hI => ?_)
      clear hr_12
      refine lv_if_eq (tgt := 56) Γ.1.1 Γ.1.2.1 dX12_drawn_50 (by decide) (fun c_14 => ?_) (fun c_14 => ?_)
      · replace h := ite_pos c_14 h; clear c_14
        obtain ⟨v4_15, e_v4_15, h⟩ := nm_some h
        refine lv_iinc (v := v4_15) (lv' := [(4, .int v4_15), (0, .ref (X.2.1 + 60)), (1, .int v1), (3, .int v3)]) Γ.1.1 Γ.1.2.1 dX12_drawn_56 hl (k := 3) rfl (by rw [e_v4_15]; rfl) (by decide) rfl (fun ls hl => ?_)
        clear e_v4_15
        refine lv_goto (tgt := 40) Γ.1.1 Γ.1.2.1 dX12_drawn_59 (by decide) ?_
        exact ih σ_13 v3 v4_15 _ _ _ hI (lv_sub hl [1, 2, 3, 0] rfl) h
      · replace h := ite_neg c_14 h; clear c_14
        obtain ⟨v3_16, e_v3_16, h⟩ := nm_some h
        refine lv_iinc (v := v3_16) (lv' := [(3, .int v3_16), (0, .ref (X.2.1 + 60)), (1, .int v1), (4, .int v4)]) Γ.1.1 Γ.1.2.1 dX12_drawn_53 hl (k := 2) rfl (by rw [e_v3_16]; rfl) (by decide) rfl (fun ls hl => ?_)
        clear e_v3_16
        obtain ⟨v4_17, e_v4_17, h⟩ := nm_some h
        refine lv_iinc (v := v4_17) (lv' := [(4, .int v4_17), (3, .int v3_16), (0, .ref (X.2.1 + 60)), (1, .int v1)]) Γ.1.1 Γ.1.2.1 dX12_drawn_56 hl (k := 3) rfl (by rw [e_v4_17]; rfl) (by decide) rfl (fun ls hl => ?_)
        clear e_v4_17
        refine lv_goto (tgt := 40) Γ.1.1 Γ.1.2.1 dX12_drawn_59 (by decide) ?_
        exact ih σ_13 v3_16 v4_17 _ _ _ hI (lv_sub hl [2, 3, 1, 0] rfl) h
set_option maxRecDepth 20000 in
set_option maxHeartbeats 4000000 in
theorem S_X12_drawn (l : Launch) (X : GX) (σ : GM) (v1 : Int32) (v2 : Int32) (σr : GM) (x : Int32) (h : f_X12_drawn σ v1 v2 = some (σr, x)) : gMet l yX12_drawn cX12_drawn 5 (some .int) ({ frames := 5, cells := 0, slots := 0, locals := 115 } : Room) X σ [.ref (X.2.1 + 60), .int v1, .int v2] (gQi X σr x) := by
  unfold f_X12_drawn at h
  refine gMet_of (lv := [(0, .ref (X.2.1 + 60)), (1, .int v1), (2, .int v2)]) (by decide) rfl (Nat.le_of_ble_eq_true rfl) rfl (fun p e s m below meth c H ls Γ hI hl => ?_)
  refine lv_aload_n Γ.1.1 Γ.1.2.1 dX12_drawn_0 rfl (lv_at hl 0 rfl) ?_
  refine lv_iconst (v := (0 : Int32)) Γ.1.1 Γ.1.2.1 dX12_drawn_1 (by decide) ?_
  refine put_X12_thrown Γ hI gw_211 dX12_drawn_2 (fun H locs hI => ?_)
  obtain ⟨σ_1, e_m_1, h⟩ := nm_some h
  rw [← e_m_1] at hI; clear e_m_1
  refine lv_iload_n Γ.1.1 Γ.1.2.1 dX12_drawn_5 rfl (lv_at hl 1 rfl) ?_
  refine lv_iconst (v := (1 : Int32)) Γ.1.1 Γ.1.2.1 dX12_drawn_6 (by decide) ?_
  refine lv_bipush (v := (60 : Int32)) Γ.1.1 Γ.1.2.1 dX12_drawn_7 (by decide) ?_
  obtain ⟨r_2, hr_2, h⟩ := ob_some h
  refine g_ci Γ hI (g_runS (As := [.int v1, .int (1 : Int32), .int (60 : Int32)]) Γ hI (S_X12_isIn l X σ_1 v1 (1 : Int32) (60 : Int32) r_2 hr_2) mf_X12_isIn gw_239 rfl rfl ⟨Nat.le_of_ble_eq_true rfl, Nat.le_of_ble_eq_true rfl⟩ rfl hl.1 rfl (Nat.le_of_ble_eq_true rfl) dX12_drawn_9 ⟨Nat.zero_le _, Nat.zero_le _⟩) (fun H locs hI => ?_)
  clear hr_2
  refine lv_if_ne (tgt := 17) Γ.1.1 Γ.1.2.1 dX12_drawn_12 (by decide) (fun c_4 => ?_) (fun c_4 => ?_)
  · replace h := ite_neg c_4 h; clear c_4
    refine lv_aload_n Γ.1.1 Γ.1.2.1 dX12_drawn_17 rfl (lv_at hl 0 rfl) ?_
    refine get_X12_now Γ hI gw_244 dX12_drawn_18 ?_
    refine lv_iconst (v := (0 : Int32)) Γ.1.1 Γ.1.2.1 dX12_drawn_21 (by decide) ?_
    refine lv_aload_n Γ.1.1 Γ.1.2.1 dX12_drawn_22 rfl (lv_at hl 0 rfl) ?_
    refine get_X12_before Γ hI gw_285 dX12_drawn_23 ?_
    refine lv_iconst (v := (0 : Int32)) Γ.1.1 Γ.1.2.1 dX12_drawn_26 (by decide) ?_
    obtain ⟨σ_6, hr_5, h⟩ := ob_some h
    refine g_cv Γ hI (g_runS (As := [.ref (X.2.1 + 62), .int (0 : Int32), .ref (X.2.1 + 66), .int (0 : Int32)]) Γ hI (S_X12_copy l X σ_1 62 66 sh_62 sh_66 (0 : Int32) (0 : Int32) σ_6 hr_5) mf_X12_copy gw_245 rfl rfl ⟨Nat.le_of_ble_eq_true rfl, Nat.le_of_ble_eq_true rfl⟩ rfl hl.1 rfl (Nat.le_of_ble_eq_true rfl) dX12_drawn_27 ⟨Nat.zero_le _, Nat.zero_le _⟩) (fun H locs hI => ?_)
    clear hr_5
    refine lv_aload_n Γ.1.1 Γ.1.2.1 dX12_drawn_30 rfl (lv_at hl 0 rfl) ?_
    refine lv_iload_n Γ.1.1 Γ.1.2.1 dX12_drawn_31 rfl (lv_at hl 2 rfl) ?_
    refine put_X12_seed Γ hI gw_296 dX12_drawn_32 (fun H locs hI => ?_)
    obtain ⟨σ_7, e_m_7, h⟩ := nm_some h
    rw [← e_m_7] at hI; clear e_m_7
    refine lv_iconst (v := (0 : Int32)) Γ.1.1 Γ.1.2.1 dX12_drawn_35 (by decide) ?_
    refine lv_istore_n (lv' := [(3, .int (0 : Int32)), (0, .ref (X.2.1 + 60)), (1, .int v1), (2, .int v2)]) Γ.1.1 Γ.1.2.1 dX12_drawn_36 rfl hl (by decide) rfl (fun ls hl => ?_)
    refine lv_iconst (v := (0 : Int32)) Γ.1.1 Γ.1.2.1 dX12_drawn_37 (by decide) ?_
    refine lv_istore (lv' := [(4, .int (0 : Int32)), (3, .int (0 : Int32)), (0, .ref (X.2.1 + 60)), (1, .int v1), (2, .int v2)]) Γ.1.1 Γ.1.2.1 dX12_drawn_38 hl (by decide) rfl (fun ls hl => ?_)
    exact s_X12_drawn_L40 σr x Γ v1 _ σ_7 (0 : Int32) (0 : Int32) _ _ _ hI (lv_sub hl [2, 3, 1, 0] rfl) h
  · replace h := ite_pos c_4 h; clear c_4
    refine lv_iconst (v := (-1 : Int32)) Γ.1.1 Γ.1.2.1 dX12_drawn_15 (by decide) ?_
    exact g_iret Γ hI dX12_drawn_16 (Prod.mk.inj (Option.some.inj h)).1 (Prod.mk.inj (Option.some.inj h)).2
set_option maxRecDepth 20000 in
set_option maxHeartbeats 4000000 in
theorem S_X12_undo (l : Launch) (X : GX) (σ : GM) (σr : GM) (x : Int32) (h : f_X12_undo σ = some (σr, x)) : gMet l yX12_undo cX12_undo 1 (some .int) ({ frames := 1, cells := 0, slots := 0, locals := 24 } : Room) X σ [.ref (X.2.1 + 60)] (gQi X σr x) := by
  unfold f_X12_undo at h
  refine gMet_of (lv := [(0, .ref (X.2.1 + 60))]) (by decide) rfl (Nat.le_of_ble_eq_true rfl) rfl (fun p e s m below meth c H ls Γ hI hl => ?_)
  refine lv_aload_n Γ.1.1 Γ.1.2.1 dX12_undo_0 rfl (lv_at hl 0 rfl) ?_
  refine lv_iconst (v := (0 : Int32)) Γ.1.1 Γ.1.2.1 dX12_undo_1 (by decide) ?_
  refine put_X12_thrown Γ hI gw_211 dX12_undo_2 (fun H locs hI => ?_)
  obtain ⟨σ_1, e_m_1, h⟩ := nm_some h
  rw [← e_m_1] at hI; clear e_m_1
  refine lv_aload_n Γ.1.1 Γ.1.2.1 dX12_undo_5 rfl (lv_at hl 0 rfl) ?_
  refine get_X12_snapMany Γ hI gw_246 dX12_undo_6 ?_
  refine lv_if_ne (tgt := 14) Γ.1.1 Γ.1.2.1 dX12_undo_9 (by decide) (fun c_2 => ?_) (fun c_2 => ?_)
  · replace h := ite_neg c_2 h; clear c_2
    refine lv_aload_n Γ.1.1 Γ.1.2.1 dX12_undo_14 rfl (lv_at hl 0 rfl) ?_
    refine lv_dup Γ.1.1 Γ.1.2.1 dX12_undo_15 rfl ?_
    refine get_X12_snapMany Γ hI gw_246 dX12_undo_16 ?_
    refine lv_iconst (v := (1 : Int32)) Γ.1.1 Γ.1.2.1 dX12_undo_19 (by decide) ?_
    refine lv_isub Γ.1.1 Γ.1.2.1 dX12_undo_20 ?_
    refine put_X12_snapMany Γ hI gw_246 dX12_undo_21 (fun H locs hI => ?_)
    obtain ⟨σ_3, e_m_3, h⟩ := nm_some h
    rw [← e_m_3] at hI; clear e_m_3
    refine lv_aload_n Γ.1.1 Γ.1.2.1 dX12_undo_24 rfl (lv_at hl 0 rfl) ?_
    refine get_X12_snaps Γ hI gw_283 dX12_undo_25 ?_
    refine lv_sipush (v := (159 : Int32)) Γ.1.1 Γ.1.2.1 dX12_undo_28 (by decide) ?_
    refine lv_aload_n Γ.1.1 Γ.1.2.1 dX12_undo_31 rfl (lv_at hl 0 rfl) ?_
    refine get_X12_snapMany Γ hI gw_246 dX12_undo_32 ?_
    refine lv_imul Γ.1.1 Γ.1.2.1 dX12_undo_35 ?_
    refine lv_aload_n Γ.1.1 Γ.1.2.1 dX12_undo_36 rfl (lv_at hl 0 rfl) ?_
    refine get_X12_now Γ hI gw_244 dX12_undo_37 ?_
    refine lv_iconst (v := (0 : Int32)) Γ.1.1 Γ.1.2.1 dX12_undo_40 (by decide) ?_
    obtain ⟨σ_5, hr_4, h⟩ := ob_some h
    refine g_cv Γ hI (g_runS (As := [.ref (X.2.1 + 65), .int ((159 : Int32) * (σ_3.1 60 19)), .ref (X.2.1 + 62), .int (0 : Int32)]) Γ hI (S_X12_copy l X σ_3 65 62 sh_65 sh_62 ((159 : Int32) * (σ_3.1 60 19)) (0 : Int32) σ_5 hr_4) mf_X12_copy gw_245 rfl rfl ⟨Nat.le_of_ble_eq_true rfl, Nat.le_of_ble_eq_true rfl⟩ rfl hl.1 rfl (Nat.le_of_ble_eq_true rfl) dX12_undo_41 ⟨Nat.zero_le _, Nat.zero_le _⟩) (fun H locs hI => ?_)
    clear hr_4
    refine lv_aload_n Γ.1.1 Γ.1.2.1 dX12_undo_44 rfl (lv_at hl 0 rfl) ?_
    refine get_X12_snapMany Γ hI gw_246 dX12_undo_45 ?_
    exact g_iret Γ hI dX12_undo_48 (Prod.mk.inj (Option.some.inj h)).1 (Prod.mk.inj (Option.some.inj h)).2
  · replace h := ite_pos c_2 h; clear c_2
    refine lv_iconst (v := (-1 : Int32)) Γ.1.1 Γ.1.2.1 dX12_undo_12 (by decide) ?_
    exact g_iret Γ hI dX12_undo_13 (Prod.mk.inj (Option.some.inj h)).1 (Prod.mk.inj (Option.some.inj h)).2
set_option maxRecDepth 20000 in
set_option maxHeartbeats 4000000 in
theorem S_X12_image (l : Launch) (X : GX) (σ : GM) (v1 : Int32) (σr : GM) (x : Int32) (h : f_X12_image σ v1 = some (σr, x)) : gMet l yX12_image cX12_image 2 (some .boolean) ({ frames := 1, cells := 0, slots := 0, locals := 24 } : Room) X σ [.ref (X.2.1 + 60), .int v1] (gQi X σr x) := by
  unfold f_X12_image at h
  refine gMet_of (lv := [(0, .ref (X.2.1 + 60)), (1, .int v1)]) (by decide) rfl (Nat.le_of_ble_eq_true rfl) rfl (fun p e s m below meth c H ls Γ hI hl => ?_)
  refine lv_aload_n Γ.1.1 Γ.1.2.1 dX12_image_0 rfl (lv_at hl 0 rfl) ?_
  refine lv_iconst (v := (0 : Int32)) Γ.1.1 Γ.1.2.1 dX12_image_1 (by decide) ?_
  refine put_X12_thrown Γ hI gw_211 dX12_image_2 (fun H locs hI => ?_)
  obtain ⟨σ_1, e_m_1, h⟩ := nm_some h
  rw [← e_m_1] at hI; clear e_m_1
  refine lv_iload_n Γ.1.1 Γ.1.2.1 dX12_image_5 rfl (lv_at hl 1 rfl) ?_
  refine lv_iconst (v := (0 : Int32)) Γ.1.1 Γ.1.2.1 dX12_image_6 (by decide) ?_
  refine lv_iconst (v := (1 : Int32)) Γ.1.1 Γ.1.2.1 dX12_image_7 (by decide) ?_
  obtain ⟨r_2, hr_2, h⟩ := ob_some h
  refine g_ci Γ hI (g_runS (As := [.int v1, .int (0 : Int32), .int (1 : Int32)]) Γ hI (S_X12_isIn l X σ_1 v1 (0 : Int32) (1 : Int32) r_2 hr_2) mf_X12_isIn gw_239 rfl rfl ⟨Nat.le_of_ble_eq_true rfl, Nat.le_of_ble_eq_true rfl⟩ rfl hl.1 rfl (Nat.le_of_ble_eq_true rfl) dX12_image_8 ⟨Nat.zero_le _, Nat.zero_le _⟩) (fun H locs hI => ?_)
  clear hr_2
  refine lv_if_ne (tgt := 16) Γ.1.1 Γ.1.2.1 dX12_image_11 (by decide) (fun c_4 => ?_) (fun c_4 => ?_)
  · replace h := ite_neg c_4 h; clear c_4
    refine lv_aload_n Γ.1.1 Γ.1.2.1 dX12_image_16 rfl (lv_at hl 0 rfl) ?_
    refine get_X12_now Γ hI gw_244 dX12_image_17 ?_
    refine lv_iconst (v := (0 : Int32)) Γ.1.1 Γ.1.2.1 dX12_image_20 (by decide) ?_
    refine lv_aload_n Γ.1.1 Γ.1.2.1 dX12_image_21 rfl (lv_at hl 0 rfl) ?_
    refine get_X12_kept Γ hI gw_300 dX12_image_22 ?_
    refine lv_sipush (v := (159 : Int32)) Γ.1.1 Γ.1.2.1 dX12_image_25 (by decide) ?_
    refine lv_iload_n Γ.1.1 Γ.1.2.1 dX12_image_28 rfl (lv_at hl 1 rfl) ?_
    refine lv_imul Γ.1.1 Γ.1.2.1 dX12_image_29 ?_
    obtain ⟨σ_6, hr_5, h⟩ := ob_some h
    refine g_cv Γ hI (g_runS (As := [.ref (X.2.1 + 62), .int (0 : Int32), .ref (X.2.1 + 64), .int ((159 : Int32) * v1)]) Γ hI (S_X12_copy l X σ_1 62 64 sh_62 sh_64 (0 : Int32) ((159 : Int32) * v1) σ_6 hr_5) mf_X12_copy gw_245 rfl rfl ⟨Nat.le_of_ble_eq_true rfl, Nat.le_of_ble_eq_true rfl⟩ rfl hl.1 rfl (Nat.le_of_ble_eq_true rfl) dX12_image_30 ⟨Nat.zero_le _, Nat.zero_le _⟩) (fun H locs hI => ?_)
    clear hr_5
    refine lv_aload_n Γ.1.1 Γ.1.2.1 dX12_image_33 rfl (lv_at hl 0 rfl) ?_
    refine get_X12_isKept Γ hI gw_301 dX12_image_34 ?_
    refine lv_iload_n Γ.1.1 Γ.1.2.1 dX12_image_37 rfl (lv_at hl 1 rfl) ?_
    refine lv_iconst (v := (1 : Int32)) Γ.1.1 Γ.1.2.1 dX12_image_38 (by decide) ?_
    obtain ⟨hb_7, h⟩ := bnd_some h
    refine g_zast Γ hI sh_69 hb_7 dX12_image_39 (fun H locs hI => ?_)
    obtain ⟨σ_8, e_m_8, h⟩ := nm_some h
    rw [← e_m_8] at hI; clear e_m_8
    refine lv_iconst (v := (1 : Int32)) Γ.1.1 Γ.1.2.1 dX12_image_40 (by decide) ?_
    exact g_zret Γ hI dX12_image_41 (Prod.mk.inj (Option.some.inj h)).1 (Prod.mk.inj (Option.some.inj h)).2
  · replace h := ite_pos c_4 h; clear c_4
    refine lv_iconst (v := (0 : Int32)) Γ.1.1 Γ.1.2.1 dX12_image_14 (by decide) ?_
    exact g_zret Γ hI dX12_image_15 (Prod.mk.inj (Option.some.inj h)).1 (Prod.mk.inj (Option.some.inj h)).2
set_option maxRecDepth 20000 in
set_option maxHeartbeats 4000000 in
theorem S_X12_restore (l : Launch) (X : GX) (σ : GM) (v1 : Int32) (σr : GM) (x : Int32) (h : f_X12_restore σ v1 = some (σr, x)) : gMet l yX12_restore cX12_restore 2 (some .boolean) ({ frames := 1, cells := 0, slots := 0, locals := 24 } : Room) X σ [.ref (X.2.1 + 60), .int v1] (gQi X σr x) := by
  unfold f_X12_restore at h
  refine gMet_of (lv := [(0, .ref (X.2.1 + 60)), (1, .int v1)]) (by decide) rfl (Nat.le_of_ble_eq_true rfl) rfl (fun p e s m below meth c H ls Γ hI hl => ?_)
  refine lv_aload_n Γ.1.1 Γ.1.2.1 dX12_restore_0 rfl (lv_at hl 0 rfl) ?_
  refine lv_iconst (v := (0 : Int32)) Γ.1.1 Γ.1.2.1 dX12_restore_1 (by decide) ?_
  refine put_X12_thrown Γ hI gw_211 dX12_restore_2 (fun H locs hI => ?_)
  obtain ⟨σ_1, e_m_1, h⟩ := nm_some h
  rw [← e_m_1] at hI; clear e_m_1
  refine lv_iload_n Γ.1.1 Γ.1.2.1 dX12_restore_5 rfl (lv_at hl 1 rfl) ?_
  refine lv_iconst (v := (0 : Int32)) Γ.1.1 Γ.1.2.1 dX12_restore_6 (by decide) ?_
  refine lv_iconst (v := (1 : Int32)) Γ.1.1 Γ.1.2.1 dX12_restore_7 (by decide) ?_
  obtain ⟨r_2, hr_2, h⟩ := ob_some h
  refine g_ci Γ hI (g_runS (As := [.int v1, .int (0 : Int32), .int (1 : Int32)]) Γ hI (S_X12_isIn l X σ_1 v1 (0 : Int32) (1 : Int32) r_2 hr_2) mf_X12_isIn gw_239 rfl rfl ⟨Nat.le_of_ble_eq_true rfl, Nat.le_of_ble_eq_true rfl⟩ rfl hl.1 rfl (Nat.le_of_ble_eq_true rfl) dX12_restore_8 ⟨Nat.zero_le _, Nat.zero_le _⟩) (fun H locs hI => ?_)
  clear hr_2
  refine lv_if_eq (tgt := 23) Γ.1.1 Γ.1.2.1 dX12_restore_11 (by decide) (fun c_4 => ?_) (fun c_4 => ?_)
  · replace h := ite_pos c_4 h; clear c_4
    refine lv_iconst (v := (0 : Int32)) Γ.1.1 Γ.1.2.1 dX12_restore_23 (by decide) ?_
    exact g_zret Γ hI dX12_restore_24 (Prod.mk.inj (Option.some.inj h)).1 (Prod.mk.inj (Option.some.inj h)).2
  · replace h := ite_neg c_4 h; clear c_4
    refine lv_aload_n Γ.1.1 Γ.1.2.1 dX12_restore_14 rfl (lv_at hl 0 rfl) ?_
    refine get_X12_isKept Γ hI gw_301 dX12_restore_15 ?_
    refine lv_iload_n Γ.1.1 Γ.1.2.1 dX12_restore_18 rfl (lv_at hl 1 rfl) ?_
    obtain ⟨hb_5, h⟩ := bnd_some h
    refine g_zald Γ hI sh_69 hb_5 dX12_restore_19 ?_
    refine lv_if_ne (tgt := 25) Γ.1.1 Γ.1.2.1 dX12_restore_20 (by decide) (fun c_6 => ?_) (fun c_6 => ?_)
    · replace h := ite_neg c_6 h; clear c_6
      refine lv_aload_n Γ.1.1 Γ.1.2.1 dX12_restore_25 rfl (lv_at hl 0 rfl) ?_
      refine get_X12_kept Γ hI gw_300 dX12_restore_26 ?_
      refine lv_sipush (v := (159 : Int32)) Γ.1.1 Γ.1.2.1 dX12_restore_29 (by decide) ?_
      refine lv_iload_n Γ.1.1 Γ.1.2.1 dX12_restore_32 rfl (lv_at hl 1 rfl) ?_
      refine lv_imul Γ.1.1 Γ.1.2.1 dX12_restore_33 ?_
      refine lv_aload_n Γ.1.1 Γ.1.2.1 dX12_restore_34 rfl (lv_at hl 0 rfl) ?_
      refine get_X12_now Γ hI gw_244 dX12_restore_35 ?_
      refine lv_iconst (v := (0 : Int32)) Γ.1.1 Γ.1.2.1 dX12_restore_38 (by decide) ?_
      obtain ⟨σ_8, hr_7, h⟩ := ob_some h
      refine g_cv Γ hI (g_runS (As := [.ref (X.2.1 + 64), .int ((159 : Int32) * v1), .ref (X.2.1 + 62), .int (0 : Int32)]) Γ hI (S_X12_copy l X σ_1 64 62 sh_64 sh_62 ((159 : Int32) * v1) (0 : Int32) σ_8 hr_7) mf_X12_copy gw_245 rfl rfl ⟨Nat.le_of_ble_eq_true rfl, Nat.le_of_ble_eq_true rfl⟩ rfl hl.1 rfl (Nat.le_of_ble_eq_true rfl) dX12_restore_39 ⟨Nat.zero_le _, Nat.zero_le _⟩) (fun H locs hI => ?_)
      clear hr_7
      refine lv_aload_n Γ.1.1 Γ.1.2.1 dX12_restore_42 rfl (lv_at hl 0 rfl) ?_
      refine lv_iconst (v := (0 : Int32)) Γ.1.1 Γ.1.2.1 dX12_restore_43 (by decide) ?_
      refine put_X12_snapMany Γ hI gw_246 dX12_restore_44 (fun H locs hI => ?_)
      obtain ⟨σ_9, e_m_9, h⟩ := nm_some h
      rw [← e_m_9] at hI; clear e_m_9
      refine lv_iconst (v := (1 : Int32)) Γ.1.1 Γ.1.2.1 dX12_restore_47 (by decide) ?_
      exact g_zret Γ hI dX12_restore_48 (Prod.mk.inj (Option.some.inj h)).1 (Prod.mk.inj (Option.some.inj h)).2
    · replace h := ite_pos c_6 h; clear c_6
      refine lv_iconst (v := (0 : Int32)) Γ.1.1 Γ.1.2.1 dX12_restore_23 (by decide) ?_
      exact g_zret Γ hI dX12_restore_24 (Prod.mk.inj (Option.some.inj h)).1 (Prod.mk.inj (Option.some.inj h)).2
