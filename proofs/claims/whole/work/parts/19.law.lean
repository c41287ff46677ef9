/-! THE LAW, walked (by gen.py) -/
theorem gw_882 : Cond.methodLink RL 23 yX11_feed ∈ GW := gw_t2 37 rfl rfl
theorem gw_883 : Cond.methodLink RL 27 yX12_feed ∈ GW := gw_t4 134 rfl rfl
theorem gw_884 : Cond.methodLink RL 28 yX11_end ∈ GW := gw_t2 49 rfl rfl
theorem gw_885 : Cond.methodLink RL 32 yX12_end ∈ GW := gw_t4 143 rfl rfl
theorem gw_886 : Cond.methodLink RL 33 yX11_net ∈ GW := gw_t2 53 rfl rfl
theorem gw_887 : Cond.methodLink RL 37 yX12_net ∈ GW := gw_t5 3 rfl rfl
theorem gw_888 : Cond.methodLink RL 38 yX11_fault ∈ GW := gw_t2 167 rfl rfl
theorem gw_889 : Cond.methodLink RL 41 yX12_fault ∈ GW := gw_t5 82 rfl rfl
theorem gw_890 : Cond.methodLink RL 42 yX11_now ∈ GW := gw_t2 171 rfl rfl
theorem gw_891 : Cond.methodLink RL 46 yX12_now ∈ GW := gw_t5 86 rfl rfl
theorem gw_892 : Cond.methodLink RL 47 yL_point ∈ GW := gw_t4 33 rfl rfl
theorem gw_893 : Cond.methodLink RL 52 yX12_point ∈ GW := gw_t5 109 rfl rfl
theorem gw_894 : Cond.methodLink RL 53 yX12_thrown ∈ GW := gw_t4 130 rfl rfl
theorem gw_895 : Cond.methodLink RL 56 yX11_lines ∈ GW := gw_t2 200 rfl rfl
theorem gw_896 : Cond.methodLink RL 59 yX12_lines ∈ GW := gw_t5 121 rfl rfl
theorem gw_897 : Cond.methodLink RL 60 yX11_cuts ∈ GW := gw_t2 206 rfl rfl
theorem gw_898 : Cond.methodLink RL 63 yX12_cuts ∈ GW := gw_t5 125 rfl rfl
theorem gw_899 : Cond.methodLink RL 64 yX11_fewest ∈ GW := gw_t3 6 rfl rfl
theorem gw_900 : Cond.methodLink RL 67 yX12_fewest ∈ GW := gw_t5 144 rfl rfl
theorem gw_901 : Cond.methodLink RL 68 yX11_lightest ∈ GW := gw_t3 19 rfl rfl
theorem gw_902 : Cond.methodLink RL 71 yX12_lightest ∈ GW := gw_t5 156 rfl rfl
theorem gw_903 : Cond.methodLink RL 72 yX11_those ∈ GW := gw_t3 27 rfl rfl
theorem gw_904 : Cond.methodLink RL 75 yX12_those ∈ GW := gw_t5 160 rfl rfl
theorem gw_905 : Cond.methodLink RL 76 yX11_sparing ∈ GW := gw_t3 31 rfl rfl
theorem gw_906 : Cond.methodLink RL 79 yX12_sparing ∈ GW := gw_t5 164 rfl rfl
theorem gw_907 : Cond.methodLink RL 80 yX11_upTo ∈ GW := gw_t3 35 rfl rfl
theorem gw_908 : Cond.methodLink RL 83 yX12_upTo ∈ GW := gw_t5 168 rfl rfl
theorem gw_909 : Cond.methodLink RL 84 yX11_rings ∈ GW := gw_t3 39 rfl rfl
theorem gw_910 : Cond.methodLink RL 88 yX12_rings ∈ GW := gw_t5 172 rfl rfl
theorem gw_911 : Cond.methodLink RL 89 yX11_shortest ∈ GW := gw_t3 53 rfl rfl
theorem gw_912 : Cond.methodLink RL 92 yX12_shortest ∈ GW := gw_t5 185 rfl rfl
theorem gw_913 : Cond.methodLink RL 93 yX11_packed ∈ GW := gw_t3 65 rfl rfl
theorem gw_914 : Cond.methodLink RL 96 yX12_packed ∈ GW := gw_t5 189 rfl rfl
theorem gw_915 : Cond.methodLink RL 97 yX11_pack ∈ GW := gw_t3 95 rfl rfl
theorem gw_916 : Cond.methodLink RL 100 yX12_pack ∈ GW := gw_t5 197 rfl rfl
theorem gw_917 : Cond.methodLink RL 101 yX11_near ∈ GW := gw_t3 107 rfl rfl
theorem gw_918 : Cond.methodLink RL 104 yX12_near ∈ GW := gw_t5 201 rfl rfl
theorem gw_919 : Cond.methodLink RL 105 yL_bound ∈ GW := gw_t4 110 rfl rfl
theorem gw_920 : Cond.methodLink RL 108 yX12_bound ∈ GW := gw_t5 232 rfl rfl
theorem gw_921 : Cond.methodLink RL 109 yX11_shrink ∈ GW := gw_t3 163 rfl rfl
theorem gw_922 : Cond.methodLink RL 112 yX12_shrink ∈ GW := gw_t5 236 rfl rfl
theorem gw_923 : Cond.methodLink RL 113 yX11_shrinkAll ∈ GW := gw_t3 213 rfl rfl
theorem gw_924 : Cond.methodLink RL 116 yX12_shrinkAll ∈ GW := gw_t6 35 rfl rfl
theorem gw_925 : Cond.methodLink RL 117 yX11_drop ∈ GW := gw_t3 217 rfl rfl
theorem gw_926 : Cond.methodLink RL 120 yX12_drop ∈ GW := gw_t6 39 rfl rfl
theorem gw_927 : Cond.methodLink RL 121 yX11_join ∈ GW := gw_t3 222 rfl rfl
theorem gw_928 : Cond.methodLink RL 124 yX12_join ∈ GW := gw_t6 43 rfl rfl
theorem gw_929 : Cond.methodLink RL 125 yX11_part ∈ GW := gw_t3 227 rfl rfl
theorem gw_930 : Cond.methodLink RL 128 yX12_part ∈ GW := gw_t6 51 rfl rfl
theorem gw_931 : Cond.methodLink RL 129 yX11_weigh ∈ GW := gw_t3 235 rfl rfl
theorem gw_932 : Cond.methodLink RL 132 yX12_weigh ∈ GW := gw_t6 55 rfl rfl
theorem gw_933 : Cond.methodLink RL 133 yX11_drawn ∈ GW := gw_t4 0 rfl rfl
theorem gw_934 : Cond.methodLink RL 136 yX12_drawn ∈ GW := gw_t6 59 rfl rfl
theorem gw_935 : Cond.methodLink RL 137 yX11_undo ∈ GW := gw_t4 13 rfl rfl
theorem gw_936 : Cond.methodLink RL 140 yX12_undo ∈ GW := gw_t6 72 rfl rfl
theorem gw_937 : Cond.methodLink RL 141 yX11_image ∈ GW := gw_t4 21 rfl rfl
theorem gw_938 : Cond.methodLink RL 144 yX12_image ∈ GW := gw_t6 76 rfl rfl
theorem gw_939 : Cond.methodLink RL 145 yX11_restore ∈ GW := gw_t4 29 rfl rfl
theorem gw_940 : Cond.methodLink RL 148 yX12_restore ∈ GW := gw_t6 80 rfl rfl
set_option maxRecDepth 100000 in
set_option maxHeartbeats 16000000 in
theorem s_L_law {p : Program} {l : Launch} {e : Env} {s : State} {m : MethodId} {below : List Frame} {meth : Method} {c : Code} {X : GX} {bS L : Nat} {xs : Nat → Int32} (hX : va_X bS L xs s s.heap) (hbl : bS < s.heap.size) (hbase : X.2.1 = s.heap.size) (hZ : kX X s s.heap) (hcst : l.stackTraces = false) (σr : GM) (Γ : gC X p m meth c code 8 s #[Value.ref bS] RL ret) :
    ∀ (k : Nat) (σ : GM) (v4 : Int32) (H : Heap) (locs : List Loc) (ls : Array Slot) (cells slots : Nat), cells + k ≤ 600000 → slots + 6 * k ≤ 7200000 → gI X σ s H locs → lv_has ls 8 [(0, .ref bS), (1, .ref (X.2.1 + 0)), (2, .ref (X.2.1 + 60)), (3, .ref (X.2.1 + 75)), (4, .int v4)] → f_L_law_L23 xs L k σ v4 = some (σr, 1) →
    W p l e room_1 s m #[Value.ref bS] below meth c H locs cells slots (lw_Z below #[Value.ref bS] s) (F0 m 23 ls []) := by
  have hbA : ¬ gA X bS := by show ¬ X.2.1 ≤ bS; omega
  intro k
  induction k with
  | zero =>
    intro σ v4 H locs ls cells slots hq1 hq2 hI hl h
    exact absurd h (by simp [f_L_law_L23])
  | succ k ih =>
    intro σ v4 H locs ls cells slots hq1 hq2 hI hl h
    unfold f_L_law_L23 at h
    have hcs1 : cells ≤ room_1.cells := by show cells ≤ 601024; omega
    have hcs2 : slots ≤ room_1.slots := by show slots ≤ 7293034; omega
    have hcs3 : cells + 1 ≤ room_1.cells := by show cells + 1 ≤ 601024; omega
    have hcs4 : slots + 6 ≤ room_1.slots := by show slots + 6 ≤ 7293034; omega
    refine lv_iload Γ.1.1 Γ.1.2.1 dL_law_23 (lv_at hl 4 rfl) ?_
    refine lv_aload_n Γ.1.1 Γ.1.2.1 dL_law_25 rfl (lv_at hl 0 rfl) ?_
    refine va_slen Γ.1.1 Γ.1.2.1 hX hbl hbA hI.2 dL_law_26 ?_
    refine lv_bipush (v := (6 : Int32)) Γ.1.1 Γ.1.2.1 dL_law_27 (by decide) ?_
    refine lv_isub Γ.1.1 Γ.1.2.1 dL_law_29 ?_
    refine lv_icmp_gt (tgt := 977) Γ.1.1 Γ.1.2.1 dL_law_30 (by decide) (fun c_1 => ?_) (fun c_1 => ?_)
    · replace h := ite_pos c_1 h; clear c_1
      refine lv_iconst (v := (1 : Int32)) Γ.1.1 Γ.1.2.1 dL_law_977 (by decide) ?_
      refine va_forget (fun q hq => by have h9 : X.2.1 ≤ q.base := hI.2.2.2 q hq; omega) ?_
      refine W.widen (k := 601024) (n := 7293034) (by omega) (by omega) ?_
      exact lw_ret Γ.1.1 Γ.1.2.1 Γ.2.2.1 Γ.2.2.2 dL_law_978
    · replace h := ite_neg c_1 h; clear c_1
      refine lv_aload_n Γ.1.1 Γ.1.2.1 dL_law_33 rfl (lv_at hl 0 rfl) ?_
      refine lv_iload Γ.1.1 Γ.1.2.1 dL_law_34 (lv_at hl 4 rfl) ?_
      obtain ⟨hb_2, h⟩ := bnd_some h
      refine va_sld Γ.1.1 Γ.1.2.1 hX hbl hbA hI.2 hb_2 dL_law_36 ?_
      refine lv_bipush (v := (31 : Int32)) Γ.1.1 Γ.1.2.1 dL_law_37 (by decide) ?_
      refine lv_iand Γ.1.1 Γ.1.2.1 dL_law_39 ?_
      refine lv_topi (fun w_3 e_w_3 => ?_)
      replace h := nm_at e_w_3 h; clear e_w_3
      by_cases c_40_0 : w_3 = (0 : Int32)
      · replace h := ite_pos c_40_0 h
        refine lv_tableIn (off := 132) (tgt := 172) Γ.1.1 Γ.1.2.1 dL_law_40 (by rw [c_40_0]; decide) (by rw [c_40_0]; decide) (by rw [c_40_0]; decide) (by decide) ?_
        refine lv_aload_n Γ.1.1 Γ.1.2.1 dL_law_172 rfl (lv_at hl 1 rfl) ?_
        refine lv_aload_n Γ.1.1 Γ.1.2.1 dL_law_173 rfl (lv_at hl 0 rfl) ?_
        refine lv_iload Γ.1.1 Γ.1.2.1 dL_law_174 (lv_at hl 4 rfl) ?_
        refine lv_iconst (v := (1 : Int32)) Γ.1.1 Γ.1.2.1 dL_law_176 (by decide) ?_
        refine lv_iadd Γ.1.1 Γ.1.2.1 dL_law_177 ?_
        refine lv_topi (fun i_4 e_i_4 => ?_)
        replace h := nm_at e_i_4 h; clear e_i_4
        obtain ⟨hb_5, h⟩ := bnd_some h
        refine va_sld Γ.1.1 Γ.1.2.1 hX hbl hbA hI.2 hb_5 dL_law_178 ?_
        refine lv_aload_n Γ.1.1 Γ.1.2.1 dL_law_179 rfl (lv_at hl 0 rfl) ?_
        refine lv_iload Γ.1.1 Γ.1.2.1 dL_law_180 (lv_at hl 4 rfl) ?_
        refine lv_iconst (v := (2 : Int32)) Γ.1.1 Γ.1.2.1 dL_law_182 (by decide) ?_
        refine lv_iadd Γ.1.1 Γ.1.2.1 dL_law_183 ?_
        refine lv_topi (fun i_6 e_i_6 => ?_)
        replace h := nm_at e_i_6 h; clear e_i_6
        obtain ⟨hb_7, h⟩ := bnd_some h
        refine va_sld Γ.1.1 Γ.1.2.1 hX hbl hbA hI.2 hb_7 dL_law_184 ?_
        refine lv_aload_n Γ.1.1 Γ.1.2.1 dL_law_185 rfl (lv_at hl 0 rfl) ?_
        refine lv_iload Γ.1.1 Γ.1.2.1 dL_law_186 (lv_at hl 4 rfl) ?_
        refine lv_iconst (v := (3 : Int32)) Γ.1.1 Γ.1.2.1 dL_law_188 (by decide) ?_
        refine lv_iadd Γ.1.1 Γ.1.2.1 dL_law_189 ?_
        refine lv_topi (fun i_8 e_i_8 => ?_)
        replace h := nm_at e_i_8 h; clear e_i_8
        obtain ⟨hb_9, h⟩ := bnd_some h
        refine va_sld Γ.1.1 Γ.1.2.1 hX hbl hbA hI.2 hb_9 dL_law_190 ?_
        refine lv_aload_n Γ.1.1 Γ.1.2.1 dL_law_191 rfl (lv_at hl 0 rfl) ?_
        refine lv_iload Γ.1.1 Γ.1.2.1 dL_law_192 (lv_at hl 4 rfl) ?_
        refine lv_iconst (v := (4 : Int32)) Γ.1.1 Γ.1.2.1 dL_law_194 (by decide) ?_
        refine lv_iadd Γ.1.1 Γ.1.2.1 dL_law_195 ?_
        refine lv_topi (fun i_10 e_i_10 => ?_)
        replace h := nm_at e_i_10 h; clear e_i_10
        obtain ⟨hb_11, h⟩ := bnd_some h
        refine va_sld Γ.1.1 Γ.1.2.1 hX hbl hbA hI.2 hb_11 dL_law_196 ?_
        refine lv_aload_n Γ.1.1 Γ.1.2.1 dL_law_197 rfl (lv_at hl 0 rfl) ?_
        refine lv_iload Γ.1.1 Γ.1.2.1 dL_law_198 (lv_at hl 4 rfl) ?_
        refine lv_iconst (v := (5 : Int32)) Γ.1.1 Γ.1.2.1 dL_law_200 (by decide) ?_
        refine lv_iadd Γ.1.1 Γ.1.2.1 dL_law_201 ?_
        refine lv_topi (fun i_12 e_i_12 => ?_)
        replace h := nm_at e_i_12 h; clear e_i_12
        obtain ⟨hb_13, h⟩ := bnd_some h
        refine va_sld Γ.1.1 Γ.1.2.1 hX hbl hbA hI.2 hb_13 dL_law_202 ?_
        obtain ⟨σ_15, r_14, hr_14, h⟩ := ob2_some h
        refine g_ci Γ hI (g_runV (As := [.int (xs i_4.toNatClampNeg), .int (xs i_6.toNatClampNeg), .int (xs i_8.toNatClampNeg), .int (xs i_10.toNatClampNeg), .int (xs i_12.toNatClampNeg)]) Γ hI (S_X11_feed l X σ (xs i_4.toNatClampNeg) (xs i_6.toNatClampNeg) (xs i_8.toNatClampNeg) (xs i_10.toNatClampNeg) (xs i_12.toNatClampNeg) σ_15 r_14 hr_14) mf_X11_feed (recv_X11 Γ hI) gw_882 rfl rfl ⟨Nat.le_of_ble_eq_true rfl, Nat.le_of_ble_eq_true rfl⟩ rfl hl.1 rfl (Nat.le_of_ble_eq_true rfl) dL_law_203 ⟨by assumption, by assumption⟩) (fun H locs hI => ?_)
        clear hr_14
        refine lv_aload_n Γ.1.1 Γ.1.2.1 dL_law_206 rfl (lv_at hl 2 rfl) ?_
        refine lv_aload_n Γ.1.1 Γ.1.2.1 dL_law_207 rfl (lv_at hl 0 rfl) ?_
        refine lv_iload Γ.1.1 Γ.1.2.1 dL_law_208 (lv_at hl 4 rfl) ?_
        refine lv_iconst (v := (1 : Int32)) Γ.1.1 Γ.1.2.1 dL_law_210 (by decide) ?_
        refine lv_iadd Γ.1.1 Γ.1.2.1 dL_law_211 ?_
        refine lv_topi (fun i_16 e_i_16 => ?_)
        replace h := nm_at e_i_16 h; clear e_i_16
        obtain ⟨hb_17, h⟩ := bnd_some h
        refine va_sld Γ.1.1 Γ.1.2.1 hX hbl hbA hI.2 hb_17 dL_law_212 ?_
        refine lv_aload_n Γ.1.1 Γ.1.2.1 dL_law_213 rfl (lv_at hl 0 rfl) ?_
        refine lv_iload Γ.1.1 Γ.1.2.1 dL_law_214 (lv_at hl 4 rfl) ?_
        refine lv_iconst (v := (2 : Int32)) Γ.1.1 Γ.1.2.1 dL_law_216 (by decide) ?_
        refine lv_iadd Γ.1.1 Γ.1.2.1 dL_law_217 ?_
        refine lv_topi (fun i_18 e_i_18 => ?_)
        replace h := nm_at e_i_18 h; clear e_i_18
        obtain ⟨hb_19, h⟩ := bnd_some h
        refine va_sld Γ.1.1 Γ.1.2.1 hX hbl hbA hI.2 hb_19 dL_law_218 ?_
        refine lv_aload_n Γ.1.1 Γ.1.2.1 dL_law_219 rfl (lv_at hl 0 rfl) ?_
        refine lv_iload Γ.1.1 Γ.1.2.1 dL_law_220 (lv_at hl 4 rfl) ?_
        refine lv_iconst (v := (3 : Int32)) Γ.1.1 Γ.1.2.1 dL_law_222 (by decide) ?_
        refine lv_iadd Γ.1.1 Γ.1.2.1 dL_law_223 ?_
        refine lv_topi (fun i_20 e_i_20 => ?_)
        replace h := nm_at e_i_20 h; clear e_i_20
        obtain ⟨hb_21, h⟩ := bnd_some h
        refine va_sld Γ.1.1 Γ.1.2.1 hX hbl hbA hI.2 hb_21 dL_law_224 ?_
        refine lv_aload_n Γ.1.1 Γ.1.2.1 dL_law_225 rfl (lv_at hl 0 rfl) ?_
        refine lv_iload Γ.1.1 Γ.1.2.1 dL_law_226 (lv_at hl 4 rfl) ?_
        refine lv_iconst (v := (4 : Int32)) Γ.1.1 Γ.1.2.1 dL_law_228 (by decide) ?_
        refine lv_iadd Γ.1.1 Γ.1.2.1 dL_law_229 ?_
        refine lv_topi (fun i_22 e_i_22 => ?_)
        replace h := nm_at e_i_22 h; clear e_i_22
        obtain ⟨hb_23, h⟩ := bnd_some h
        refine va_sld Γ.1.1 Γ.1.2.1 hX hbl hbA hI.2 hb_23 dL_law_230 ?_
        refine lv_aload_n Γ.1.1 Γ.1.2.1 dL_law_231 rfl (lv_at hl 0 rfl) ?_
        refine lv_iload Γ.1.1 Γ.1.2.1 dL_law_232 (lv_at hl 4 rfl) ?_
        refine lv_iconst (v := (5 : Int32)) Γ.1.1 Γ.1.2.1 dL_law_234 (by decide) ?_
        refine lv_iadd Γ.1.1 Γ.1.2.1 dL_law_235 ?_
        refine lv_topi (fun i_24 e_i_24 => ?_)
        replace h := nm_at e_i_24 h; clear e_i_24
        obtain ⟨hb_25, h⟩ := bnd_some h
        refine va_sld Γ.1.1 Γ.1.2.1 hX hbl hbA hI.2 hb_25 dL_law_236 ?_
        obtain ⟨σ_27, r_26, hr_26, h⟩ := ob2_some h
        refine g_ci Γ hI (g_runV (As := [.int (xs i_16.toNatClampNeg), .int (xs i_18.toNatClampNeg), .int (xs i_20.toNatClampNeg), .int (xs i_22.toNatClampNeg), .int (xs i_24.toNatClampNeg)]) Γ hI (S_X12_feed l X σ_15 (xs i_16.toNatClampNeg) (xs i_18.toNatClampNeg) (xs i_20.toNatClampNeg) (xs i_22.toNatClampNeg) (xs i_24.toNatClampNeg) σ_27 r_26 hr_26) mf_X12_feed (recv_X12 Γ hI) gw_883 rfl rfl ⟨Nat.le_of_ble_eq_true rfl, Nat.le_of_ble_eq_true rfl⟩ rfl hl.1 rfl (Nat.le_of_ble_eq_true rfl) dL_law_237 ⟨by assumption, by assumption⟩) (fun H locs hI => ?_)
        clear hr_26
        refine lv_icmp_eq (tgt := 971) Γ.1.1 Γ.1.2.1 dL_law_240 (by decide) (fun c_28 => ?_) (fun c_28 => ?_)
        · replace h := ite_pos c_28 h; clear c_28
          obtain ⟨v4_29, e_v4_29, h⟩ := nm_some h
          refine lv_iinc (v := v4_29) (lv' := [(4, .int v4_29), (0, .ref bS), (1, .ref (X.2.1 + 0)), (2, .ref (X.2.1 + 60)), (3, .ref (X.2.1 + 75))]) Γ.1.1 Γ.1.2.1 dL_law_971 hl (k := 4) rfl (by rw [e_v4_29]; rfl) (by decide) rfl (fun ls hl => ?_)
          clear e_v4_29
          refine lv_goto (tgt := 23) Γ.1.1 Γ.1.2.1 dL_law_974 (by decide) ?_
          refine W.widen (k := cells + 1) (n := slots + 6) (by omega) (by omega) ?_
          exact ih σ_27 v4_29 _ _ _ (cells + 1) (slots + 6) (by omega) (by omega) hI (lv_sub hl [1, 2, 3, 4, 0] rfl) h
        · replace h := ite_neg c_28 h; clear c_28
          refine lv_iconst (v := (0 : Int32)) Γ.1.1 Γ.1.2.1 dL_law_243 (by decide) ?_
          exact absurd (Prod.mk.inj (Option.some.inj h)).2 (by decide)
      · replace h := ite_neg c_40_0 h
        by_cases c_40_1 : w_3 = (1 : Int32)
        · replace h := ite_pos c_40_1 h
          refine lv_tableIn (off := 205) (tgt := 245) Γ.1.1 Γ.1.2.1 dL_law_40 (by rw [c_40_1]; decide) (by rw [c_40_1]; decide) (by rw [c_40_1]; decide) (by decide) ?_
          refine lv_aload_n Γ.1.1 Γ.1.2.1 dL_law_245 rfl (lv_at hl 1 rfl) ?_
          refine lv_aload_n Γ.1.1 Γ.1.2.1 dL_law_246 rfl (lv_at hl 0 rfl) ?_
          refine lv_iload Γ.1.1 Γ.1.2.1 dL_law_247 (lv_at hl 4 rfl) ?_
          refine lv_iconst (v := (1 : Int32)) Γ.1.1 Γ.1.2.1 dL_law_249 (by decide) ?_
          refine lv_iadd Γ.1.1 Γ.1.2.1 dL_law_250 ?_
          refine lv_topi (fun i_30 e_i_30 => ?_)
          replace h := nm_at e_i_30 h; clear e_i_30
          obtain ⟨hb_31, h⟩ := bnd_some h
          refine va_sld Γ.1.1 Γ.1.2.1 hX hbl hbA hI.2 hb_31 dL_law_251 ?_
          obtain ⟨σ_33, r_32, hr_32, h⟩ := ob2_some h
          refine g_ci Γ hI (g_runV (As := [.int (xs i_30.toNatClampNeg)]) Γ hI (S_X11_end l X σ (xs i_30.toNatClampNeg) σ_33 r_32 hr_32) mf_X11_end (recv_X11 Γ hI) gw_884 rfl rfl ⟨Nat.le_of_ble_eq_true rfl, Nat.le_of_ble_eq_true rfl⟩ rfl hl.1 rfl (Nat.le_of_ble_eq_true rfl) dL_law_252 ⟨by assumption, by assumption⟩) (fun H locs hI => ?_)
          clear hr_32
          refine lv_aload_n Γ.1.1 Γ.1.2.1 dL_law_255 rfl (lv_at hl 2 rfl) ?_
          refine lv_aload_n Γ.1.1 Γ.1.2.1 dL_law_256 rfl (lv_at hl 0 rfl) ?_
          refine lv_iload Γ.1.1 Γ.1.2.1 dL_law_257 (lv_at hl 4 rfl) ?_
          refine lv_iconst (v := (1 : Int32)) Γ.1.1 Γ.1.2.1 dL_law_259 (by decide) ?_
          refine lv_iadd Γ.1.1 Γ.1.2.1 dL_law_260 ?_
          refine lv_topi (fun i_34 e_i_34 => ?_)
          replace h := nm_at e_i_34 h; clear e_i_34
          obtain ⟨hb_35, h⟩ := bnd_some h
          refine va_sld Γ.1.1 Γ.1.2.1 hX hbl hbA hI.2 hb_35 dL_law_261 ?_
          obtain ⟨σ_37, r_36, hr_36, h⟩ := ob2_some h
          refine g_ci Γ hI (g_runV (As := [.int (xs i_34.toNatClampNeg)]) Γ hI (S_X12_end l X σ_33 (xs i_34.toNatClampNeg) σ_37 r_36 hr_36) mf_X12_end (recv_X12 Γ hI) gw_885 rfl rfl ⟨Nat.le_of_ble_eq_true rfl, Nat.le_of_ble_eq_true rfl⟩ rfl hl.1 rfl (Nat.le_of_ble_eq_true rfl) dL_law_262 ⟨by assumption, by assumption⟩) (fun H locs hI => ?_)
          clear hr_36
          refine lv_icmp_eq (tgt := 971) Γ.1.1 Γ.1.2.1 dL_law_265 (by decide) (fun c_38 => ?_) (fun c_38 => ?_)
          · replace h := ite_pos c_38 h; clear c_38
            obtain ⟨v4_39, e_v4_39, h⟩ := nm_some h
            refine lv_iinc (v := v4_39) (lv' := [(4, .int v4_39), (0, .ref bS), (1, .ref (X.2.1 + 0)), (2, .ref (X.2.1 + 60)), (3, .ref (X.2.1 + 75))]) Γ.1.1 Γ.1.2.1 dL_law_971 hl (k := 4) rfl (by rw [e_v4_39]; rfl) (by decide) rfl (fun ls hl => ?_)
            clear e_v4_39
            refine lv_goto (tgt := 23) Γ.1.1 Γ.1.2.1 dL_law_974 (by decide) ?_
            refine W.widen (k := cells + 1) (n := slots + 6) (by omega) (by omega) ?_
            exact ih σ_37 v4_39 _ _ _ (cells + 1) (slots + 6) (by omega) (by omega) hI (lv_sub hl [1, 2, 3, 4, 0] rfl) h
          · replace h := ite_neg c_38 h; clear c_38
            refine lv_iconst (v := (0 : Int32)) Γ.1.1 Γ.1.2.1 dL_law_268 (by decide) ?_
            exact absurd (Prod.mk.inj (Option.some.inj h)).2 (by decide)
        · replace h := ite_neg c_40_1 h
          by_cases c_40_2 : w_3 = (2 : Int32)
          · replace h := ite_pos c_40_2 h
            refine lv_tableIn (off := 230) (tgt := 270) Γ.1.1 Γ.1.2.1 dL_law_40 (by rw [c_40_2]; decide) (by rw [c_40_2]; decide) (by rw [c_40_2]; decide) (by decide) ?_
            refine lv_aload_n Γ.1.1 Γ.1.2.1 dL_law_270 rfl (lv_at hl 1 rfl) ?_
            obtain ⟨σ_41, r_40, hr_40, h⟩ := ob2_some h
            refine g_ci Γ hI (g_runV (As := []) Γ hI (S_X11_net l X σ σ_41 r_40 hr_40) mf_X11_net (recv_X11 Γ hI) gw_886 rfl rfl ⟨Nat.le_of_ble_eq_true rfl, Nat.le_of_ble_eq_true rfl⟩ rfl hl.1 rfl (Nat.le_of_ble_eq_true rfl) dL_law_271 ⟨by assumption, by assumption⟩) (fun H locs hI => ?_)
            clear hr_40
            refine lv_aload_n Γ.1.1 Γ.1.2.1 dL_law_274 rfl (lv_at hl 2 rfl) ?_
            obtain ⟨σ_43, r_42, hr_42, h⟩ := ob2_some h
            refine g_ci Γ hI (g_runV (As := []) Γ hI (S_X12_net l X σ_41 σ_43 r_42 hr_42) mf_X12_net (recv_X12 Γ hI) gw_887 rfl rfl ⟨Nat.le_of_ble_eq_true rfl, Nat.le_of_ble_eq_true rfl⟩ rfl hl.1 rfl (Nat.le_of_ble_eq_true rfl) dL_law_275 ⟨by assumption, by assumption⟩) (fun H locs hI => ?_)
            clear hr_42
            refine lv_icmp_eq (tgt := 971) Γ.1.1 Γ.1.2.1 dL_law_278 (by decide) (fun c_44 => ?_) (fun c_44 => ?_)
            · replace h := ite_pos c_44 h; clear c_44
              obtain ⟨v4_45, e_v4_45, h⟩ := nm_some h
              refine lv_iinc (v := v4_45) (lv' := [(4, .int v4_45), (0, .ref bS), (1, .ref (X.2.1 + 0)), (2, .ref (X.2.1 + 60)), (3, .ref (X.2.1 + 75))]) Γ.1.1 Γ.1.2.1 dL_law_971 hl (k := 4) rfl (by rw [e_v4_45]; rfl) (by decide) rfl (fun ls hl => ?_)
              clear e_v4_45
              refine lv_goto (tgt := 23) Γ.1.1 Γ.1.2.1 dL_law_974 (by decide) ?_
              refine W.widen (k := cells + 1) (n := slots + 6) (by omega) (by omega) ?_
              exact ih σ_43 v4_45 _ _ _ (cells + 1) (slots + 6) (by omega) (by omega) hI (lv_sub hl [1, 2, 3, 4, 0] rfl) h
            · replace h := ite_neg c_44 h; clear c_44
              refine lv_iconst (v := (0 : Int32)) Γ.1.1 Γ.1.2.1 dL_law_281 (by decide) ?_
              exact absurd (Prod.mk.inj (Option.some.inj h)).2 (by decide)
          · replace h := ite_neg c_40_2 h
            by_cases c_40_3 : w_3 = (3 : Int32)
            · replace h := ite_pos c_40_3 h
              refine lv_tableIn (off := 243) (tgt := 283) Γ.1.1 Γ.1.2.1 dL_law_40 (by rw [c_40_3]; decide) (by rw [c_40_3]; decide) (by rw [c_40_3]; decide) (by decide) ?_
              refine lv_aload_n Γ.1.1 Γ.1.2.1 dL_law_283 rfl (lv_at hl 1 rfl) ?_
              obtain ⟨r_46, hr_46, h⟩ := ob_some h
              refine g_ci Γ hI (g_runV (As := []) Γ hI (S_X11_fault l X σ r_46 hr_46) mf_X11_fault (recv_X11 Γ hI) gw_888 rfl rfl ⟨Nat.le_of_ble_eq_true rfl, Nat.le_of_ble_eq_true rfl⟩ rfl hl.1 rfl (Nat.le_of_ble_eq_true rfl) dL_law_284 ⟨by assumption, by assumption⟩) (fun H locs hI => ?_)
              clear hr_46
              refine lv_aload_n Γ.1.1 Γ.1.2.1 dL_law_287 rfl (lv_at hl 2 rfl) ?_
              obtain ⟨σ_49, r_48, hr_48, h⟩ := ob2_some h
              refine g_ci Γ hI (g_runV (As := []) Γ hI (S_X12_fault l X σ σ_49 r_48 hr_48) mf_X12_fault (recv_X12 Γ hI) gw_889 rfl rfl ⟨Nat.le_of_ble_eq_true rfl, Nat.le_of_ble_eq_true rfl⟩ rfl hl.1 rfl (Nat.le_of_ble_eq_true rfl) dL_law_288 ⟨by assumption, by assumption⟩) (fun H locs hI => ?_)
              clear hr_48
              refine lv_icmp_eq (tgt := 971) Γ.1.1 Γ.1.2.1 dL_law_291 (by decide) (fun c_50 => ?_) (fun c_50 => ?_)
              · replace h := ite_pos c_50 h; clear c_50
                obtain ⟨v4_51, e_v4_51, h⟩ := nm_some h
                refine lv_iinc (v := v4_51) (lv' := [(4, .int v4_51), (0, .ref bS), (1, .ref (X.2.1 + 0)), (2, .ref (X.2.1 + 60)), (3, .ref (X.2.1 + 75))]) Γ.1.1 Γ.1.2.1 dL_law_971 hl (k := 4) rfl (by rw [e_v4_51]; rfl) (by decide) rfl (fun ls hl => ?_)
                clear e_v4_51
                refine lv_goto (tgt := 23) Γ.1.1 Γ.1.2.1 dL_law_974 (by decide) ?_
                refine W.widen (k := cells + 1) (n := slots + 6) (by omega) (by omega) ?_
                exact ih σ_49 v4_51 _ _ _ (cells + 1) (slots + 6) (by omega) (by omega) hI (lv_sub hl [1, 2, 3, 4, 0] rfl) h
              · replace h := ite_neg c_50 h; clear c_50
                refine lv_iconst (v := (0 : Int32)) Γ.1.1 Γ.1.2.1 dL_law_294 (by decide) ?_
                exact absurd (Prod.mk.inj (Option.some.inj h)).2 (by decide)
            · replace h := ite_neg c_40_3 h
              by_cases c_40_4 : w_3 = (4 : Int32)
              · replace h := ite_pos c_40_4 h
                refine lv_tableIn (off := 256) (tgt := 296) Γ.1.1 Γ.1.2.1 dL_law_40 (by rw [c_40_4]; decide) (by rw [c_40_4]; decide) (by rw [c_40_4]; decide) (by decide) ?_
                refine lv_aload_n Γ.1.1 Γ.1.2.1 dL_law_296 rfl (lv_at hl 1 rfl) ?_
                refine lv_aload_n Γ.1.1 Γ.1.2.1 dL_law_297 rfl (lv_at hl 0 rfl) ?_
                refine lv_iload Γ.1.1 Γ.1.2.1 dL_law_298 (lv_at hl 4 rfl) ?_
                refine lv_iconst (v := (1 : Int32)) Γ.1.1 Γ.1.2.1 dL_law_300 (by decide) ?_
                refine lv_iadd Γ.1.1 Γ.1.2.1 dL_law_301 ?_
                refine lv_topi (fun i_52 e_i_52 => ?_)
                replace h := nm_at e_i_52 h; clear e_i_52
                obtain ⟨hb_53, h⟩ := bnd_some h
                refine va_sld Γ.1.1 Γ.1.2.1 hX hbl hbA hI.2 hb_53 dL_law_302 ?_
                obtain ⟨r_54, hr_54, h⟩ := ob_some h
                refine g_ci Γ hI (g_runV (As := [.int (xs i_52.toNatClampNeg)]) Γ hI (S_X11_now l X σ (xs i_52.toNatClampNeg) r_54 hr_54) mf_X11_now (recv_X11 Γ hI) gw_890 rfl rfl ⟨Nat.le_of_ble_eq_true rfl, Nat.le_of_ble_eq_true rfl⟩ rfl hl.1 rfl (Nat.le_of_ble_eq_true rfl) dL_law_303 ⟨by assumption, by assumption⟩) (fun H locs hI => ?_)
                clear hr_54
                refine lv_aload_n Γ.1.1 Γ.1.2.1 dL_law_306 rfl (lv_at hl 2 rfl) ?_
                refine lv_aload_n Γ.1.1 Γ.1.2.1 dL_law_307 rfl (lv_at hl 0 rfl) ?_
                refine lv_iload Γ.1.1 Γ.1.2.1 dL_law_308 (lv_at hl 4 rfl) ?_
                refine lv_iconst (v := (1 : Int32)) Γ.1.1 Γ.1.2.1 dL_law_310 (by decide) ?_
                refine lv_iadd Γ.1.1 Γ.1.2.1 dL_law_311 ?_
                refine lv_topi (fun i_56 e_i_56 => ?_)
                replace h := nm_at e_i_56 h; clear e_i_56
                obtain ⟨hb_57, h⟩ := bnd_some h
                refine va_sld Γ.1.1 Γ.1.2.1 hX hbl hbA hI.2 hb_57 dL_law_312 ?_
                obtain ⟨σ_59, r_58, hr_58, h⟩ := ob2_some h
                refine g_ci Γ hI (g_runV (As := [.int (xs i_56.toNatClampNeg)]) Γ hI (S_X12_now l X σ (xs i_56.toNatClampNeg) σ_59 r_58 hr_58) mf_X12_now (recv_X12 Γ hI) gw_891 rfl rfl ⟨Nat.le_of_ble_eq_true rfl, Nat.le_of_ble_eq_true rfl⟩ rfl hl.1 rfl (Nat.le_of_ble_eq_true rfl) dL_law_313 ⟨by assumption, by assumption⟩) (fun H locs hI => ?_)
                clear hr_58
                refine lv_icmp_eq (tgt := 971) Γ.1.1 Γ.1.2.1 dL_law_316 (by decide) (fun c_60 => ?_) (fun c_60 => ?_)
                · replace h := ite_pos c_60 h; clear c_60
                  obtain ⟨v4_61, e_v4_61, h⟩ := nm_some h
                  refine lv_iinc (v := v4_61) (lv' := [(4, .int v4_61), (0, .ref bS), (1, .ref (X.2.1 + 0)), (2, .ref (X.2.1 + 60)), (3, .ref (X.2.1 + 75))]) Γ.1.1 Γ.1.2.1 dL_law_971 hl (k := 4) rfl (by rw [e_v4_61]; rfl) (by decide) rfl (fun ls hl => ?_)
                  clear e_v4_61
                  refine lv_goto (tgt := 23) Γ.1.1 Γ.1.2.1 dL_law_974 (by decide) ?_
                  refine W.widen (k := cells + 1) (n := slots + 6) (by omega) (by omega) ?_
                  exact ih σ_59 v4_61 _ _ _ (cells + 1) (slots + 6) (by omega) (by omega) hI (lv_sub hl [1, 2, 3, 4, 0] rfl) h
                · replace h := ite_neg c_60 h; clear c_60
                  refine lv_iconst (v := (0 : Int32)) Γ.1.1 Γ.1.2.1 dL_law_319 (by decide) ?_
                  exact absurd (Prod.mk.inj (Option.some.inj h)).2 (by decide)
              · replace h := ite_neg c_40_4 h
                by_cases c_40_5 : w_3 = (5 : Int32)
                · replace h := ite_pos c_40_5 h
                  refine lv_tableIn (off := 281) (tgt := 321) Γ.1.1 Γ.1.2.1 dL_law_40 (by rw [c_40_5]; decide) (by rw [c_40_5]; decide) (by rw [c_40_5]; decide) (by decide) ?_
                  refine lv_aload_n Γ.1.1 Γ.1.2.1 dL_law_321 rfl (lv_at hl 1 rfl) ?_
                  refine lv_aload_n Γ.1.1 Γ.1.2.1 dL_law_322 rfl (lv_at hl 0 rfl) ?_
                  refine lv_iload Γ.1.1 Γ.1.2.1 dL_law_323 (lv_at hl 4 rfl) ?_
                  refine lv_iconst (v := (1 : Int32)) Γ.1.1 Γ.1.2.1 dL_law_325 (by decide) ?_
                  refine lv_iadd Γ.1.1 Γ.1.2.1 dL_law_326 ?_
                  refine lv_topi (fun i_62 e_i_62 => ?_)
                  replace h := nm_at e_i_62 h; clear e_i_62
                  obtain ⟨hb_63, h⟩ := bnd_some h
                  refine va_sld Γ.1.1 Γ.1.2.1 hX hbl hbA hI.2 hb_63 dL_law_327 ?_
                  refine lv_aload_n Γ.1.1 Γ.1.2.1 dL_law_328 rfl (lv_at hl 0 rfl) ?_
                  refine lv_iload Γ.1.1 Γ.1.2.1 dL_law_329 (lv_at hl 4 rfl) ?_
                  refine lv_iconst (v := (2 : Int32)) Γ.1.1 Γ.1.2.1 dL_law_331 (by decide) ?_
                  refine lv_iadd Γ.1.1 Γ.1.2.1 dL_law_332 ?_
                  refine lv_topi (fun i_64 e_i_64 => ?_)
                  replace h := nm_at e_i_64 h; clear e_i_64
                  obtain ⟨hb_65, h⟩ := bnd_some h
                  refine va_sld Γ.1.1 Γ.1.2.1 hX hbl hbA hI.2 hb_65 dL_law_333 ?_
                  refine lv_aload_n Γ.1.1 Γ.1.2.1 dL_law_334 rfl (lv_at hl 3 rfl) ?_
                  obtain ⟨σ_67, r_66, hr_66, h⟩ := ob2_some h
                  refine g_c1 (As := [.ref (X.2.1 + 0), .int (xs i_62.toNatClampNeg), .int (xs i_64.toNatClampNeg), .ref (X.2.1 + 75)]) Γ hI hZ (S_L_point l X σ (xs i_62.toNatClampNeg) (xs i_64.toNatClampNeg) hcst σ_67 r_66 hr_66) mfw_point gw_892 ⟨Nat.le_of_ble_eq_true rfl, Nat.le_of_ble_eq_true rfl⟩ rfl hl.1 rfl (Nat.le_of_ble_eq_true rfl) dL_law_335 ⟨hcs3, hcs4⟩ (fun H locs hI => ?_)
                  clear hr_66
                  refine lv_istore (lv' := [(5, .int r_66), (0, .ref bS), (1, .ref (X.2.1 + 0)), (2, .ref (X.2.1 + 60)), (3, .ref (X.2.1 + 75)), (4, .int v4)]) Γ.1.1 Γ.1.2.1 dL_law_338 hl (by decide) rfl (fun ls hl => ?_)
                  refine lv_aload_n Γ.1.1 Γ.1.2.1 dL_law_340 rfl (lv_at hl 3 rfl) ?_
                  refine lv_aload_n Γ.1.1 Γ.1.2.1 dL_law_341 rfl (lv_at hl 1 rfl) ?_
                  refine lv_iload Γ.1.1 Γ.1.2.1 dL_law_342 (lv_at hl 5 rfl) ?_
                  refine lv_iconst (v := (1 : Int32)) Γ.1.1 Γ.1.2.1 dL_law_344 (by decide) ?_
                  refine lv_iadd Γ.1.1 Γ.1.2.1 dL_law_345 ?_
                  refine lv_topi (fun i_68 e_i_68 => ?_)
                  replace h := nm_at e_i_68 h; clear e_i_68
                  obtain ⟨hb_69, h⟩ := bnd_some h
                  refine va_sld Γ.1.1 Γ.1.2.1 hX hbl hbA hI.2 hb_69 dL_law_346 ?_
                  refine lv_aload_n Γ.1.1 Γ.1.2.1 dL_law_347 rfl (lv_at hl 1 rfl) ?_
                  refine lv_iload Γ.1.1 Γ.1.2.1 dL_law_348 (lv_at hl 5 rfl) ?_
                  refine lv_iconst (v := (2 : Int32)) Γ.1.1 Γ.1.2.1 dL_law_350 (by decide) ?_
                  refine lv_iadd Γ.1.1 Γ.1.2.1 dL_law_351 ?_
                  refine lv_topi (fun i_70 e_i_70 => ?_)
                  replace h := nm_at e_i_70 h; clear e_i_70
                  obtain ⟨hb_71, h⟩ := bnd_some h
                  refine va_sld Γ.1.1 Γ.1.2.1 hX hbl hbA hI.2 hb_71 dL_law_352 ?_
                  obtain ⟨σ_73, r_72, hr_72, h⟩ := ob2_some h
                  refine g_ci Γ hI (g_runV (As := [.int (xs i_68.toNatClampNeg), .int (xs i_70.toNatClampNeg)]) Γ hI (S_X12_point l X σ_67 (xs i_68.toNatClampNeg) (xs i_70.toNatClampNeg) σ_73 r_72 hr_72) mf_X12_point (recv_X12 Γ hI) gw_893 rfl rfl ⟨Nat.le_of_ble_eq_true rfl, Nat.le_of_ble_eq_true rfl⟩ rfl hl.1 rfl (Nat.le_of_ble_eq_true rfl) dL_law_353 ⟨by assumption, by assumption⟩) (fun H locs hI => ?_)
                  clear hr_72
                  refine lv_istore (lv' := [(6, .int r_72), (5, .int r_66), (0, .ref bS), (1, .ref (X.2.1 + 0)), (2, .ref (X.2.1 + 60)), (3, .ref (X.2.1 + 75)), (4, .int v4)]) Γ.1.1 Γ.1.2.1 dL_law_356 hl (by decide) rfl (fun ls hl => ?_)
                  refine lv_aload_n Γ.1.1 Γ.1.2.1 dL_law_358 rfl (lv_at hl 4 rfl) ?_
                  obtain ⟨r_74, hr_74, h⟩ := ob_some h
                  refine g_ci Γ hI (g_runV (As := []) Γ hI (S_X12_thrown l X σ_73 r_74 hr_74) mf_X12_thrown (recv_X12 Γ hI) gw_894 rfl rfl ⟨Nat.le_of_ble_eq_true rfl, Nat.le_of_ble_eq_true rfl⟩ rfl hl.1 rfl (Nat.le_of_ble_eq_true rfl) dL_law_359 ⟨by assumption, by assumption⟩) (fun H locs hI => ?_)
                  clear hr_74
                  refine lv_iload Γ.1.1 Γ.1.2.1 dL_law_362 (lv_at hl 1 rfl) ?_
                  refine lv_icmp_eq (tgt := 369) Γ.1.1 Γ.1.2.1 dL_law_364 (by decide) (fun c_76 => ?_) (fun c_76 => ?_)
                  · replace h := ite_pos c_76 h; clear c_76
                    refine lv_iload Γ.1.1 Γ.1.2.1 dL_law_369 (lv_at hl 1 rfl) ?_
                    refine lv_if_ne (tgt := 386) Γ.1.1 Γ.1.2.1 dL_law_371 (by decide) (fun c_77 => ?_) (fun c_77 => ?_)
                    · replace h := ite_neg c_77 h; clear c_77
                      refine lv_goto (tgt := 971) Γ.1.1 Γ.1.2.1 dL_law_386 (by decide) ?_
                      obtain ⟨v4_78, e_v4_78, h⟩ := nm_some h
                      refine lv_iinc (v := v4_78) (lv' := [(4, .int v4_78), (6, .int r_72), (5, .int r_66), (0, .ref bS), (1, .ref (X.2.1 + 0)), (2, .ref (X.2.1 + 60)), (3, .ref (X.2.1 + 75))]) Γ.1.1 Γ.1.2.1 dL_law_971 hl (k := 6) rfl (by rw [e_v4_78]; rfl) (by decide) rfl (fun ls hl => ?_)
                      clear e_v4_78
                      refine lv_goto (tgt := 23) Γ.1.1 Γ.1.2.1 dL_law_974 (by decide) ?_
                      refine W.widen (k := cells + 1) (n := slots + 6) (by omega) (by omega) ?_
                      exact ih σ_73 v4_78 _ _ _ (cells + 1) (slots + 6) (by omega) (by omega) hI (lv_sub hl [3, 4, 5, 6, 0] rfl) h
                    · replace h := ite_pos c_77 h; clear c_77
                      refine lv_aload_n Γ.1.1 Γ.1.2.1 dL_law_374 rfl (lv_at hl 5 rfl) ?_
                      refine lv_iconst (v := (0 : Int32)) Γ.1.1 Γ.1.2.1 dL_law_375 (by decide) ?_
                      obtain ⟨hb_79, h⟩ := bnd_some h
                      refine g_lald Γ hI sh_75 hb_79 dL_law_376 ?_
                      refine lv_iload Γ.1.1 Γ.1.2.1 dL_law_377 (lv_at hl 0 rfl) ?_
                      refine lv_i2l (v := (r_72.toInt64)) Γ.1.1 Γ.1.2.1 dL_law_379 rfl ?_
                      refine W.lcmp Γ.1.1 Γ.1.2.1 dL_law_380 ?_
                      refine lv_if_eq (tgt := 386) Γ.1.1 Γ.1.2.1 dL_law_381 (by decide) (fun c_80 => ?_) (fun c_80 => ?_)
                      · replace h := ite_pos c_80 h; clear c_80
                        refine lv_goto (tgt := 971) Γ.1.1 Γ.1.2.1 dL_law_386 (by decide) ?_
                        obtain ⟨v4_81, e_v4_81, h⟩ := nm_some h
                        refine lv_iinc (v := v4_81) (lv' := [(4, .int v4_81), (6, .int r_72), (5, .int r_66), (0, .ref bS), (1, .ref (X.2.1 + 0)), (2, .ref (X.2.1 + 60)), (3, .ref (X.2.1 + 75))]) Γ.1.1 Γ.1.2.1 dL_law_971 hl (k := 6) rfl (by rw [e_v4_81]; rfl) (by decide) rfl (fun ls hl => ?_)
                        clear e_v4_81
                        refine lv_goto (tgt := 23) Γ.1.1 Γ.1.2.1 dL_law_974 (by decide) ?_
                        refine W.widen (k := cells + 1) (n := slots + 6) (by omega) (by omega) ?_
                        exact ih σ_73 v4_81 _ _ _ (cells + 1) (slots + 6) (by omega) (by omega) hI (lv_sub hl [3, 4, 5, 6, 0] rfl) h
                      · replace h := ite_neg c_80 h; clear c_80
                        refine lv_iconst (v := (0 : Int32)) Γ.1.1 Γ.1.2.1 dL_law_384 (by decide) ?_
                        exact absurd (Prod.mk.inj (Option.some.inj h)).2 (by decide)
                  · replace h := ite_neg c_76 h; clear c_76
                    refine lv_iconst (v := (0 : Int32)) Γ.1.1 Γ.1.2.1 dL_law_367 (by decide) ?_
                    exact absurd (Prod.mk.inj (Option.some.inj h)).2 (by decide)
                · replace h := ite_neg c_40_5 h
                  by_cases c_40_6 : w_3 = (6 : Int32)
                  · replace h := ite_pos c_40_6 h
                    refine lv_tableIn (off := 349) (tgt := 389) Γ.1.1 Γ.1.2.1 dL_law_40 (by rw [c_40_6]; decide) (by rw [c_40_6]; decide) (by rw [c_40_6]; decide) (by decide) ?_
                    refine lv_aload_n Γ.1.1 Γ.1.2.1 dL_law_389 rfl (lv_at hl 1 rfl) ?_
                    refine lv_aload_n Γ.1.1 Γ.1.2.1 dL_law_390 rfl (lv_at hl 0 rfl) ?_
                    refine lv_iload Γ.1.1 Γ.1.2.1 dL_law_391 (lv_at hl 4 rfl) ?_
                    refine lv_iconst (v := (1 : Int32)) Γ.1.1 Γ.1.2.1 dL_law_393 (by decide) ?_
                    refine lv_iadd Γ.1.1 Γ.1.2.1 dL_law_394 ?_
                    refine lv_topi (fun i_82 e_i_82 => ?_)
                    replace h := nm_at e_i_82 h; clear e_i_82
                    obtain ⟨hb_83, h⟩ := bnd_some h
                    refine va_sld Γ.1.1 Γ.1.2.1 hX hbl hbA hI.2 hb_83 dL_law_395 ?_
                    refine lv_aload_n Γ.1.1 Γ.1.2.1 dL_law_396 rfl (lv_at hl 0 rfl) ?_
                    refine lv_iload Γ.1.1 Γ.1.2.1 dL_law_397 (lv_at hl 4 rfl) ?_
                    refine lv_iconst (v := (2 : Int32)) Γ.1.1 Γ.1.2.1 dL_law_399 (by decide) ?_
                    refine lv_iadd Γ.1.1 Γ.1.2.1 dL_law_400 ?_
                    refine lv_topi (fun i_84 e_i_84 => ?_)
                    replace h := nm_at e_i_84 h; clear e_i_84
                    obtain ⟨hb_85, h⟩ := bnd_some h
                    refine va_sld Γ.1.1 Γ.1.2.1 hX hbl hbA hI.2 hb_85 dL_law_401 ?_
                    obtain ⟨r_86, hr_86, h⟩ := ob_some h
                    refine g_ci Γ hI (g_runV (As := [.int (xs i_82.toNatClampNeg), .int (xs i_84.toNatClampNeg)]) Γ hI (S_X11_lines l X σ (xs i_82.toNatClampNeg) (xs i_84.toNatClampNeg) r_86 hr_86) mf_X11_lines (recv_X11 Γ hI) gw_895 rfl rfl ⟨Nat.le_of_ble_eq_true rfl, Nat.le_of_ble_eq_true rfl⟩ rfl hl.1 rfl (Nat.le_of_ble_eq_true rfl) dL_law_402 ⟨by assumption, by assumption⟩) (fun H locs hI => ?_)
                    clear hr_86
                    refine lv_aload_n Γ.1.1 Γ.1.2.1 dL_law_405 rfl (lv_at hl 2 rfl) ?_
                    refine lv_aload_n Γ.1.1 Γ.1.2.1 dL_law_406 rfl (lv_at hl 0 rfl) ?_
                    refine lv_iload Γ.1.1 Γ.1.2.1 dL_law_407 (lv_at hl 4 rfl) ?_
                    refine lv_iconst (v := (1 : Int32)) Γ.1.1 Γ.1.2.1 dL_law_409 (by decide) ?_
                    refine lv_iadd Γ.1.1 Γ.1.2.1 dL_law_410 ?_
                    refine lv_topi (fun i_88 e_i_88 => ?_)
                    replace h := nm_at e_i_88 h; clear e_i_88
                    obtain ⟨hb_89, h⟩ := bnd_some h
                    refine va_sld Γ.1.1 Γ.1.2.1 hX hbl hbA hI.2 hb_89 dL_law_411 ?_
                    refine lv_aload_n Γ.1.1 Γ.1.2.1 dL_law_412 rfl (lv_at hl 0 rfl) ?_
                    refine lv_iload Γ.1.1 Γ.1.2.1 dL_law_413 (lv_at hl 4 rfl) ?_
                    refine lv_iconst (v := (2 : Int32)) Γ.1.1 Γ.1.2.1 dL_law_415 (by decide) ?_
                    refine lv_iadd Γ.1.1 Γ.1.2.1 dL_law_416 ?_
                    refine lv_topi (fun i_90 e_i_90 => ?_)
                    replace h := nm_at e_i_90 h; clear e_i_90
                    obtain ⟨hb_91, h⟩ := bnd_some h
                    refine va_sld Γ.1.1 Γ.1.2.1 hX hbl hbA hI.2 hb_91 dL_law_417 ?_
                    obtain ⟨σ_93, r_92, hr_92, h⟩ := ob2_some h
                    refine g_ci Γ hI (g_runV (As := [.int (xs i_88.toNatClampNeg), .int (xs i_90.toNatClampNeg)]) Γ hI (S_X12_lines l X σ (xs i_88.toNatClampNeg) (xs i_90.toNatClampNeg) σ_93 r_92 hr_92) mf_X12_lines (recv_X12 Γ hI) gw_896 rfl rfl ⟨Nat.le_of_ble_eq_true rfl, Nat.le_of_ble_eq_true rfl⟩ rfl hl.1 rfl (Nat.le_of_ble_eq_true rfl) dL_law_418 ⟨by assumption, by assumption⟩) (fun H locs hI => ?_)
                    clear hr_92
                    refine lv_icmp_eq (tgt := 971) Γ.1.1 Γ.1.2.1 dL_law_421 (by decide) (fun c_94 => ?_) (fun c_94 => ?_)
                    · replace h := ite_pos c_94 h; clear c_94
                      obtain ⟨v4_95, e_v4_95, h⟩ := nm_some h
                      refine lv_iinc (v := v4_95) (lv' := [(4, .int v4_95), (0, .ref bS), (1, .ref (X.2.1 + 0)), (2, .ref (X.2.1 + 60)), (3, .ref (X.2.1 + 75))]) Γ.1.1 Γ.1.2.1 dL_law_971 hl (k := 4) rfl (by rw [e_v4_95]; rfl) (by decide) rfl (fun ls hl => ?_)
                      clear e_v4_95
                      refine lv_goto (tgt := 23) Γ.1.1 Γ.1.2.1 dL_law_974 (by decide) ?_
                      refine W.widen (k := cells + 1) (n := slots + 6) (by omega) (by omega) ?_
                      exact ih σ_93 v4_95 _ _ _ (cells + 1) (slots + 6) (by omega) (by omega) hI (lv_sub hl [1, 2, 3, 4, 0] rfl) h
                    · replace h := ite_neg c_94 h; clear c_94
                      refine lv_iconst (v := (0 : Int32)) Γ.1.1 Γ.1.2.1 dL_law_424 (by decide) ?_
                      exact absurd (Prod.mk.inj (Option.some.inj h)).2 (by decide)
                  · replace h := ite_neg c_40_6 h
                    by_cases c_40_7 : w_3 = (7 : Int32)
                    · replace h := ite_pos c_40_7 h
                      refine lv_tableIn (off := 386) (tgt := 426) Γ.1.1 Γ.1.2.1 dL_law_40 (by rw [c_40_7]; decide) (by rw [c_40_7]; decide) (by rw [c_40_7]; decide) (by decide) ?_
                      refine lv_aload_n Γ.1.1 Γ.1.2.1 dL_law_426 rfl (lv_at hl 1 rfl) ?_
                      refine lv_aload_n Γ.1.1 Γ.1.2.1 dL_law_427 rfl (lv_at hl 0 rfl) ?_
                      refine lv_iload Γ.1.1 Γ.1.2.1 dL_law_428 (lv_at hl 4 rfl) ?_
                      refine lv_iconst (v := (1 : Int32)) Γ.1.1 Γ.1.2.1 dL_law_430 (by decide) ?_
                      refine lv_iadd Γ.1.1 Γ.1.2.1 dL_law_431 ?_
                      refine lv_topi (fun i_96 e_i_96 => ?_)
                      replace h := nm_at e_i_96 h; clear e_i_96
                      obtain ⟨hb_97, h⟩ := bnd_some h
                      refine va_sld Γ.1.1 Γ.1.2.1 hX hbl hbA hI.2 hb_97 dL_law_432 ?_
                      obtain ⟨σ_99, r_98, hr_98, h⟩ := ob2_some h
                      refine g_ci Γ hI (g_runV (As := [.int (xs i_96.toNatClampNeg)]) Γ hI (S_X11_cuts l X σ (xs i_96.toNatClampNeg) σ_99 r_98 hr_98) mf_X11_cuts (recv_X11 Γ hI) gw_897 rfl rfl ⟨Nat.le_of_ble_eq_true rfl, Nat.le_of_ble_eq_true rfl⟩ rfl hl.1 rfl (Nat.le_of_ble_eq_true rfl) dL_law_433 ⟨by assumption, by assumption⟩) (fun H locs hI => ?_)
                      clear hr_98
                      refine lv_aload_n Γ.1.1 Γ.1.2.1 dL_law_436 rfl (lv_at hl 2 rfl) ?_
                      refine lv_aload_n Γ.1.1 Γ.1.2.1 dL_law_437 rfl (lv_at hl 0 rfl) ?_
                      refine lv_iload Γ.1.1 Γ.1.2.1 dL_law_438 (lv_at hl 4 rfl) ?_
                      refine lv_iconst (v := (1 : Int32)) Γ.1.1 Γ.1.2.1 dL_law_440 (by decide) ?_
                      refine lv_iadd Γ.1.1 Γ.1.2.1 dL_law_441 ?_
                      refine lv_topi (fun i_100 e_i_100 => ?_)
                      replace h := nm_at e_i_100 h; clear e_i_100
                      obtain ⟨hb_101, h⟩ := bnd_some h
                      refine va_sld Γ.1.1 Γ.1.2.1 hX hbl hbA hI.2 hb_101 dL_law_442 ?_
                      obtain ⟨σ_103, r_102, hr_102, h⟩ := ob2_some h
                      refine g_ci Γ hI (g_runV (As := [.int (xs i_100.toNatClampNeg)]) Γ hI (S_X12_cuts l X σ_99 (xs i_100.toNatClampNeg) σ_103 r_102 hr_102) mf_X12_cuts (recv_X12 Γ hI) gw_898 rfl rfl ⟨Nat.le_of_ble_eq_true rfl, Nat.le_of_ble_eq_true rfl⟩ rfl hl.1 rfl (Nat.le_of_ble_eq_true rfl) dL_law_443 ⟨by assumption, by assumption⟩) (fun H locs hI => ?_)
                      clear hr_102
                      refine lv_icmp_eq (tgt := 971) Γ.1.1 Γ.1.2.1 dL_law_446 (by decide) (fun c_104 => ?_) (fun c_104 => ?_)
                      · replace h := ite_pos c_104 h; clear c_104
                        obtain ⟨v4_105, e_v4_105, h⟩ := nm_some h
                        refine lv_iinc (v := v4_105) (lv' := [(4, .int v4_105), (0, .ref bS), (1, .ref (X.2.1 + 0)), (2, .ref (X.2.1 + 60)), (3, .ref (X.2.1 + 75))]) Γ.1.1 Γ.1.2.1 dL_law_971 hl (k := 4) rfl (by rw [e_v4_105]; rfl) (by decide) rfl (fun ls hl => ?_)
                        clear e_v4_105
                        refine lv_goto (tgt := 23) Γ.1.1 Γ.1.2.1 dL_law_974 (by decide) ?_
                        refine W.widen (k := cells + 1) (n := slots + 6) (by omega) (by omega) ?_
                        exact ih σ_103 v4_105 _ _ _ (cells + 1) (slots + 6) (by omega) (by omega) hI (lv_sub hl [1, 2, 3, 4, 0] rfl) h
                      · replace h := ite_neg c_104 h; clear c_104
                        refine lv_iconst (v := (0 : Int32)) Γ.1.1 Γ.1.2.1 dL_law_449 (by decide) ?_
                        exact absurd (Prod.mk.inj (Option.some.inj h)).2 (by decide)
                    · replace h := ite_neg c_40_7 h
                      by_cases c_40_8 : w_3 = (8 : Int32)
                      · replace h := ite_pos c_40_8 h
                        refine lv_tableIn (off := 411) (tgt := 451) Γ.1.1 Γ.1.2.1 dL_law_40 (by rw [c_40_8]; decide) (by rw [c_40_8]; decide) (by rw [c_40_8]; decide) (by decide) ?_
                        refine lv_aload_n Γ.1.1 Γ.1.2.1 dL_law_451 rfl (lv_at hl 1 rfl) ?_
                        refine lv_aload_n Γ.1.1 Γ.1.2.1 dL_law_452 rfl (lv_at hl 0 rfl) ?_
                        refine lv_iload Γ.1.1 Γ.1.2.1 dL_law_453 (lv_at hl 4 rfl) ?_
                        refine lv_iconst (v := (1 : Int32)) Γ.1.1 Γ.1.2.1 dL_law_455 (by decide) ?_
                        refine lv_iadd Γ.1.1 Γ.1.2.1 dL_law_456 ?_
                        refine lv_topi (fun i_106 e_i_106 => ?_)
                        replace h := nm_at e_i_106 h; clear e_i_106
                        obtain ⟨hb_107, h⟩ := bnd_some h
                        refine va_sld Γ.1.1 Γ.1.2.1 hX hbl hbA hI.2 hb_107 dL_law_457 ?_
                        obtain ⟨σ_109, r_108, hr_108, h⟩ := ob2_some h
                        refine g_ci Γ hI (g_runV (As := [.int (xs i_106.toNatClampNeg)]) Γ hI (S_X11_fewest l X σ (xs i_106.toNatClampNeg) σ_109 r_108 hr_108) mf_X11_fewest (recv_X11 Γ hI) gw_899 rfl rfl ⟨Nat.le_of_ble_eq_true rfl, Nat.le_of_ble_eq_true rfl⟩ rfl hl.1 rfl (Nat.le_of_ble_eq_true rfl) dL_law_458 ⟨by assumption, by assumption⟩) (fun H locs hI => ?_)
                        clear hr_108
                        refine lv_aload_n Γ.1.1 Γ.1.2.1 dL_law_461 rfl (lv_at hl 2 rfl) ?_
                        refine lv_aload_n Γ.1.1 Γ.1.2.1 dL_law_462 rfl (lv_at hl 0 rfl) ?_
                        refine lv_iload Γ.1.1 Γ.1.2.1 dL_law_463 (lv_at hl 4 rfl) ?_
                        refine lv_iconst (v := (1 : Int32)) Γ.1.1 Γ.1.2.1 dL_law_465 (by decide) ?_
                        refine lv_iadd Γ.1.1 Γ.1.2.1 dL_law_466 ?_
                        refine lv_topi (fun i_110 e_i_110 => ?_)
                        replace h := nm_at e_i_110 h; clear e_i_110
                        obtain ⟨hb_111, h⟩ := bnd_some h
                        refine va_sld Γ.1.1 Γ.1.2.1 hX hbl hbA hI.2 hb_111 dL_law_467 ?_
                        obtain ⟨σ_113, r_112, hr_112, h⟩ := ob2_some h
                        refine g_ci Γ hI (g_runV (As := [.int (xs i_110.toNatClampNeg)]) Γ hI (S_X12_fewest l X σ_109 (xs i_110.toNatClampNeg) σ_113 r_112 hr_112) mf_X12_fewest (recv_X12 Γ hI) gw_900 rfl rfl ⟨Nat.le_of_ble_eq_true rfl, Nat.le_of_ble_eq_true rfl⟩ rfl hl.1 rfl (Nat.le_of_ble_eq_true rfl) dL_law_468 ⟨by assumption, by assumption⟩) (fun H locs hI => ?_)
                        clear hr_112
                        refine lv_icmp_eq (tgt := 971) Γ.1.1 Γ.1.2.1 dL_law_471 (by decide) (fun c_114 => ?_) (fun c_114 => ?_)
                        · replace h := ite_pos c_114 h; clear c_114
                          obtain ⟨v4_115, e_v4_115, h⟩ := nm_some h
                          refine lv_iinc (v := v4_115) (lv' := [(4, .int v4_115), (0, .ref bS), (1, .ref (X.2.1 + 0)), (2, .ref (X.2.1 + 60)), (3, .ref (X.2.1 + 75))]) Γ.1.1 Γ.1.2.1 dL_law_971 hl (k := 4) rfl (by rw [e_v4_115]; rfl) (by decide) rfl (fun ls hl => ?_)
                          clear e_v4_115
                          refine lv_goto (tgt := 23) Γ.1.1 Γ.1.2.1 dL_law_974 (by decide) ?_
                          refine W.widen (k := cells + 1) (n := slots + 6) (by omega) (by omega) ?_
                          exact ih σ_113 v4_115 _ _ _ (cells + 1) (slots + 6) (by omega) (by omega) hI (lv_sub hl [1, 2, 3, 4, 0] rfl) h
                        · replace h := ite_neg c_114 h; clear c_114
                          refine lv_iconst (v := (0 : Int32)) Γ.1.1 Γ.1.2.1 dL_law_474 (by decide) ?_
                          exact absurd (Prod.mk.inj (Option.some.inj h)).2 (by decide)
                      · replace h := ite_neg c_40_8 h
                        by_cases c_40_9 : w_3 = (9 : Int32)
                        · replace h := ite_pos c_40_9 h
                          refine lv_tableIn (off := 436) (tgt := 476) Γ.1.1 Γ.1.2.1 dL_law_40 (by rw [c_40_9]; decide) (by rw [c_40_9]; decide) (by rw [c_40_9]; decide) (by decide) ?_
                          refine lv_aload_n Γ.1.1 Γ.1.2.1 dL_law_476 rfl (lv_at hl 1 rfl) ?_
                          refine lv_aload_n Γ.1.1 Γ.1.2.1 dL_law_477 rfl (lv_at hl 0 rfl) ?_
                          refine lv_iload Γ.1.1 Γ.1.2.1 dL_law_478 (lv_at hl 4 rfl) ?_
                          refine lv_iconst (v := (1 : Int32)) Γ.1.1 Γ.1.2.1 dL_law_480 (by decide) ?_
                          refine lv_iadd Γ.1.1 Γ.1.2.1 dL_law_481 ?_
                          refine lv_topi (fun i_116 e_i_116 => ?_)
                          replace h := nm_at e_i_116 h; clear e_i_116
                          obtain ⟨hb_117, h⟩ := bnd_some h
                          refine va_sld Γ.1.1 Γ.1.2.1 hX hbl hbA hI.2 hb_117 dL_law_482 ?_
                          obtain ⟨σ_119, r_118, hr_118, h⟩ := ob2_some h
                          refine g_ci Γ hI (g_runV (As := [.int (xs i_116.toNatClampNeg)]) Γ hI (S_X11_lightest l X σ (xs i_116.toNatClampNeg) σ_119 r_118 hr_118) mf_X11_lightest (recv_X11 Γ hI) gw_901 rfl rfl ⟨Nat.le_of_ble_eq_true rfl, Nat.le_of_ble_eq_true rfl⟩ rfl hl.1 rfl (Nat.le_of_ble_eq_true rfl) dL_law_483 ⟨by assumption, by assumption⟩) (fun H locs hI => ?_)
                          clear hr_118
                          refine lv_aload_n Γ.1.1 Γ.1.2.1 dL_law_486 rfl (lv_at hl 2 rfl) ?_
                          refine lv_aload_n Γ.1.1 Γ.1.2.1 dL_law_487 rfl (lv_at hl 0 rfl) ?_
                          refine lv_iload Γ.1.1 Γ.1.2.1 dL_law_488 (lv_at hl 4 rfl) ?_
                          refine lv_iconst (v := (1 : Int32)) Γ.1.1 Γ.1.2.1 dL_law_490 (by decide) ?_
                          refine lv_iadd Γ.1.1 Γ.1.2.1 dL_law_491 ?_
                          refine lv_topi (fun i_120 e_i_120 => ?_)
                          replace h := nm_at e_i_120 h; clear e_i_120
                          obtain ⟨hb_121, h⟩ := bnd_some h
                          refine va_sld Γ.1.1 Γ.1.2.1 hX hbl hbA hI.2 hb_121 dL_law_492 ?_
                          obtain ⟨σ_123, r_122, hr_122, h⟩ := ob2_some h
                          refine g_ci Γ hI (g_runV (As := [.int (xs i_120.toNatClampNeg)]) Γ hI (S_X12_lightest l X σ_119 (xs i_120.toNatClampNeg) σ_123 r_122 hr_122) mf_X12_lightest (recv_X12 Γ hI) gw_902 rfl rfl ⟨Nat.le_of_ble_eq_true rfl, Nat.le_of_ble_eq_true rfl⟩ rfl hl.1 rfl (Nat.le_of_ble_eq_true rfl) dL_law_493 ⟨by assumption, by assumption⟩) (fun H locs hI => ?_)
                          clear hr_122
                          refine lv_icmp_eq (tgt := 971) Γ.1.1 Γ.1.2.1 dL_law_496 (by decide) (fun c_124 => ?_) (fun c_124 => ?_)
                          · replace h := ite_pos c_124 h; clear c_124
                            obtain ⟨v4_125, e_v4_125, h⟩ := nm_some h
                            refine lv_iinc (v := v4_125) (lv' := [(4, .int v4_125), (0, .ref bS), (1, .ref (X.2.1 + 0)), (2, .ref (X.2.1 + 60)), (3, .ref (X.2.1 + 75))]) Γ.1.1 Γ.1.2.1 dL_law_971 hl (k := 4) rfl (by rw [e_v4_125]; rfl) (by decide) rfl (fun ls hl => ?_)
                            clear e_v4_125
                            refine lv_goto (tgt := 23) Γ.1.1 Γ.1.2.1 dL_law_974 (by decide) ?_
                            refine W.widen (k := cells + 1) (n := slots + 6) (by omega) (by omega) ?_
                            exact ih σ_123 v4_125 _ _ _ (cells + 1) (slots + 6) (by omega) (by omega) hI (lv_sub hl [1, 2, 3, 4, 0] rfl) h
                          · replace h := ite_neg c_124 h; clear c_124
                            refine lv_iconst (v := (0 : Int32)) Γ.1.1 Γ.1.2.1 dL_law_499 (by decide) ?_
                            exact absurd (Prod.mk.inj (Option.some.inj h)).2 (by decide)
                        · replace h := ite_neg c_40_9 h
                          by_cases c_40_10 : w_3 = (10 : Int32)
                          · replace h := ite_pos c_40_10 h
                            refine lv_tableIn (off := 461) (tgt := 501) Γ.1.1 Γ.1.2.1 dL_law_40 (by rw [c_40_10]; decide) (by rw [c_40_10]; decide) (by rw [c_40_10]; decide) (by decide) ?_
                            refine lv_aload_n Γ.1.1 Γ.1.2.1 dL_law_501 rfl (lv_at hl 1 rfl) ?_
                            refine lv_aload_n Γ.1.1 Γ.1.2.1 dL_law_502 rfl (lv_at hl 0 rfl) ?_
                            refine lv_iload Γ.1.1 Γ.1.2.1 dL_law_503 (lv_at hl 4 rfl) ?_
                            refine lv_iconst (v := (1 : Int32)) Γ.1.1 Γ.1.2.1 dL_law_505 (by decide) ?_
                            refine lv_iadd Γ.1.1 Γ.1.2.1 dL_law_506 ?_
                            refine lv_topi (fun i_126 e_i_126 => ?_)
                            replace h := nm_at e_i_126 h; clear e_i_126
                            obtain ⟨hb_127, h⟩ := bnd_some h
                            refine va_sld Γ.1.1 Γ.1.2.1 hX hbl hbA hI.2 hb_127 dL_law_507 ?_
                            obtain ⟨σ_129, r_128, hr_128, h⟩ := ob2_some h
                            refine g_ci Γ hI (g_runV (As := [.int (xs i_126.toNatClampNeg)]) Γ hI (S_X11_those l X σ (xs i_126.toNatClampNeg) σ_129 r_128 hr_128) mf_X11_those (recv_X11 Γ hI) gw_903 rfl rfl ⟨Nat.le_of_ble_eq_true rfl, Nat.le_of_ble_eq_true rfl⟩ rfl hl.1 rfl (Nat.le_of_ble_eq_true rfl) dL_law_508 ⟨by assumption, by assumption⟩) (fun H locs hI => ?_)
                            clear hr_128
                            refine lv_aload_n Γ.1.1 Γ.1.2.1 dL_law_511 rfl (lv_at hl 2 rfl) ?_
                            refine lv_aload_n Γ.1.1 Γ.1.2.1 dL_law_512 rfl (lv_at hl 0 rfl) ?_
                            refine lv_iload Γ.1.1 Γ.1.2.1 dL_law_513 (lv_at hl 4 rfl) ?_
                            refine lv_iconst (v := (1 : Int32)) Γ.1.1 Γ.1.2.1 dL_law_515 (by decide) ?_
                            refine lv_iadd Γ.1.1 Γ.1.2.1 dL_law_516 ?_
                            refine lv_topi (fun i_130 e_i_130 => ?_)
                            replace h := nm_at e_i_130 h; clear e_i_130
                            obtain ⟨hb_131, h⟩ := bnd_some h
                            refine va_sld Γ.1.1 Γ.1.2.1 hX hbl hbA hI.2 hb_131 dL_law_517 ?_
                            obtain ⟨σ_133, r_132, hr_132, h⟩ := ob2_some h
                            refine g_ci Γ hI (g_runV (As := [.int (xs i_130.toNatClampNeg)]) Γ hI (S_X12_those l X σ_129 (xs i_130.toNatClampNeg) σ_133 r_132 hr_132) mf_X12_those (recv_X12 Γ hI) gw_904 rfl rfl ⟨Nat.le_of_ble_eq_true rfl, Nat.le_of_ble_eq_true rfl⟩ rfl hl.1 rfl (Nat.le_of_ble_eq_true rfl) dL_law_518 ⟨by assumption, by assumption⟩) (fun H locs hI => ?_)
                            clear hr_132
                            refine lv_icmp_eq (tgt := 971) Γ.1.1 Γ.1.2.1 dL_law_521 (by decide) (fun c_134 => ?_) (fun c_134 => ?_)
                            · replace h := ite_pos c_134 h; clear c_134
                              obtain ⟨v4_135, e_v4_135, h⟩ := nm_some h
                              refine lv_iinc (v := v4_135) (lv' := [(4, .int v4_135), (0, .ref bS), (1, .ref (X.2.1 + 0)), (2, .ref (X.2.1 + 60)), (3, .ref (X.2.1 + 75))]) Γ.1.1 Γ.1.2.1 dL_law_971 hl (k := 4) rfl (by rw [e_v4_135]; rfl) (by decide) rfl (fun ls hl => ?_)
                              clear e_v4_135
                              refine lv_goto (tgt := 23) Γ.1.1 Γ.1.2.1 dL_law_974 (by decide) ?_
                              refine W.widen (k := cells + 1) (n := slots + 6) (by omega) (by omega) ?_
                              exact ih σ_133 v4_135 _ _ _ (cells + 1) (slots + 6) (by omega) (by omega) hI (lv_sub hl [1, 2, 3, 4, 0] rfl) h
                            · replace h := ite_neg c_134 h; clear c_134
                              refine lv_iconst (v := (0 : Int32)) Γ.1.1 Γ.1.2.1 dL_law_524 (by decide) ?_
                              exact absurd (Prod.mk.inj (Option.some.inj h)).2 (by decide)
                          · replace h := ite_neg c_40_10 h
                            by_cases c_40_11 : w_3 = (11 : Int32)
                            · replace h := ite_pos c_40_11 h
                              refine lv_tableIn (off := 486) (tgt := 526) Γ.1.1 Γ.1.2.1 dL_law_40 (by rw [c_40_11]; decide) (by rw [c_40_11]; decide) (by rw [c_40_11]; decide) (by decide) ?_
                              refine lv_aload_n Γ.1.1 Γ.1.2.1 dL_law_526 rfl (lv_at hl 1 rfl) ?_
                              refine lv_aload_n Γ.1.1 Γ.1.2.1 dL_law_527 rfl (lv_at hl 0 rfl) ?_
                              refine lv_iload Γ.1.1 Γ.1.2.1 dL_law_528 (lv_at hl 4 rfl) ?_
                              refine lv_iconst (v := (1 : Int32)) Γ.1.1 Γ.1.2.1 dL_law_530 (by decide) ?_
                              refine lv_iadd Γ.1.1 Γ.1.2.1 dL_law_531 ?_
                              refine lv_topi (fun i_136 e_i_136 => ?_)
                              replace h := nm_at e_i_136 h; clear e_i_136
                              obtain ⟨hb_137, h⟩ := bnd_some h
                              refine va_sld Γ.1.1 Γ.1.2.1 hX hbl hbA hI.2 hb_137 dL_law_532 ?_
                              obtain ⟨σ_139, r_138, hr_138, h⟩ := ob2_some h
                              refine g_ci Γ hI (g_runV (As := [.int (xs i_136.toNatClampNeg)]) Γ hI (S_X11_sparing l X σ (xs i_136.toNatClampNeg) σ_139 r_138 hr_138) mf_X11_sparing (recv_X11 Γ hI) gw_905 rfl rfl ⟨Nat.le_of_ble_eq_true rfl, Nat.le_of_ble_eq_true rfl⟩ rfl hl.1 rfl (Nat.le_of_ble_eq_true rfl) dL_law_533 ⟨by assumption, by assumption⟩) (fun H locs hI => ?_)
                              clear hr_138
                              refine lv_aload_n Γ.1.1 Γ.1.2.1 dL_law_536 rfl (lv_at hl 2 rfl) ?_
                              refine lv_aload_n Γ.1.1 Γ.1.2.1 dL_law_537 rfl (lv_at hl 0 rfl) ?_
                              refine lv_iload Γ.1.1 Γ.1.2.1 dL_law_538 (lv_at hl 4 rfl) ?_
                              refine lv_iconst (v := (1 : Int32)) Γ.1.1 Γ.1.2.1 dL_law_540 (by decide) ?_
                              refine lv_iadd Γ.1.1 Γ.1.2.1 dL_law_541 ?_
                              refine lv_topi (fun i_140 e_i_140 => ?_)
                              replace h := nm_at e_i_140 h; clear e_i_140
                              obtain ⟨hb_141, h⟩ := bnd_some h
                              refine va_sld Γ.1.1 Γ.1.2.1 hX hbl hbA hI.2 hb_141 dL_law_542 ?_
                              obtain ⟨σ_143, r_142, hr_142, h⟩ := ob2_some h
                              refine g_ci Γ hI (g_runV (As := [.int (xs i_140.toNatClampNeg)]) Γ hI (S_X12_sparing l X σ_139 (xs i_140.toNatClampNeg) σ_143 r_142 hr_142) mf_X12_sparing (recv_X12 Γ hI) gw_906 rfl rfl ⟨Nat.le_of_ble_eq_true rfl, Nat.le_of_ble_eq_true rfl⟩ rfl hl.1 rfl (Nat.le_of_ble_eq_true rfl) dL_law_543 ⟨by assumption, by assumption⟩) (fun H locs hI => ?_)
                              clear hr_142
                              refine lv_icmp_eq (tgt := 971) Γ.1.1 Γ.1.2.1 dL_law_546 (by decide) (fun c_144 => ?_) (fun c_144 => ?_)
                              · replace h := ite_pos c_144 h; clear c_144
                                obtain ⟨v4_145, e_v4_145, h⟩ := nm_some h
                                refine lv_iinc (v := v4_145) (lv' := [(4, .int v4_145), (0, .ref bS), (1, .ref (X.2.1 + 0)), (2, .ref (X.2.1 + 60)), (3, .ref (X.2.1 + 75))]) Γ.1.1 Γ.1.2.1 dL_law_971 hl (k := 4) rfl (by rw [e_v4_145]; rfl) (by decide) rfl (fun ls hl => ?_)
                                clear e_v4_145
                                refine lv_goto (tgt := 23) Γ.1.1 Γ.1.2.1 dL_law_974 (by decide) ?_
                                refine W.widen (k := cells + 1) (n := slots + 6) (by omega) (by omega) ?_
                                exact ih σ_143 v4_145 _ _ _ (cells + 1) (slots + 6) (by omega) (by omega) hI (lv_sub hl [1, 2, 3, 4, 0] rfl) h
                              · replace h := ite_neg c_144 h; clear c_144
                                refine lv_iconst (v := (0 : Int32)) Γ.1.1 Γ.1.2.1 dL_law_549 (by decide) ?_
                                exact absurd (Prod.mk.inj (Option.some.inj h)).2 (by decide)
                            · replace h := ite_neg c_40_11 h
                              by_cases c_40_12 : w_3 = (12 : Int32)
                              · replace h := ite_pos c_40_12 h
                                refine lv_tableIn (off := 511) (tgt := 551) Γ.1.1 Γ.1.2.1 dL_law_40 (by rw [c_40_12]; decide) (by rw [c_40_12]; decide) (by rw [c_40_12]; decide) (by decide) ?_
                                refine lv_aload_n Γ.1.1 Γ.1.2.1 dL_law_551 rfl (lv_at hl 1 rfl) ?_
                                refine lv_aload_n Γ.1.1 Γ.1.2.1 dL_law_552 rfl (lv_at hl 0 rfl) ?_
                                refine lv_iload Γ.1.1 Γ.1.2.1 dL_law_553 (lv_at hl 4 rfl) ?_
                                refine lv_iconst (v := (1 : Int32)) Γ.1.1 Γ.1.2.1 dL_law_555 (by decide) ?_
                                refine lv_iadd Γ.1.1 Γ.1.2.1 dL_law_556 ?_
                                refine lv_topi (fun i_146 e_i_146 => ?_)
                                replace h := nm_at e_i_146 h; clear e_i_146
                                obtain ⟨hb_147, h⟩ := bnd_some h
                                refine va_sld Γ.1.1 Γ.1.2.1 hX hbl hbA hI.2 hb_147 dL_law_557 ?_
                                obtain ⟨σ_149, r_148, hr_148, h⟩ := ob2_some h
                                refine g_ci Γ hI (g_runV (As := [.int (xs i_146.toNatClampNeg)]) Γ hI (S_X11_upTo l X σ (xs i_146.toNatClampNeg) σ_149 r_148 hr_148) mf_X11_upTo (recv_X11 Γ hI) gw_907 rfl rfl ⟨Nat.le_of_ble_eq_true rfl, Nat.le_of_ble_eq_true rfl⟩ rfl hl.1 rfl (Nat.le_of_ble_eq_true rfl) dL_law_558 ⟨by assumption, by assumption⟩) (fun H locs hI => ?_)
                                clear hr_148
                                refine lv_aload_n Γ.1.1 Γ.1.2.1 dL_law_561 rfl (lv_at hl 2 rfl) ?_
                                refine lv_aload_n Γ.1.1 Γ.1.2.1 dL_law_562 rfl (lv_at hl 0 rfl) ?_
                                refine lv_iload Γ.1.1 Γ.1.2.1 dL_law_563 (lv_at hl 4 rfl) ?_
                                refine lv_iconst (v := (1 : Int32)) Γ.1.1 Γ.1.2.1 dL_law_565 (by decide) ?_
                                refine lv_iadd Γ.1.1 Γ.1.2.1 dL_law_566 ?_
                                refine lv_topi (fun i_150 e_i_150 => ?_)
                                replace h := nm_at e_i_150 h; clear e_i_150
                                obtain ⟨hb_151, h⟩ := bnd_some h
                                refine va_sld Γ.1.1 Γ.1.2.1 hX hbl hbA hI.2 hb_151 dL_law_567 ?_
                                obtain ⟨σ_153, r_152, hr_152, h⟩ := ob2_some h
                                refine g_ci Γ hI (g_runV (As := [.int (xs i_150.toNatClampNeg)]) Γ hI (S_X12_upTo l X σ_149 (xs i_150.toNatClampNeg) σ_153 r_152 hr_152) mf_X12_upTo (recv_X12 Γ hI) gw_908 rfl rfl ⟨Nat.le_of_ble_eq_true rfl, Nat.le_of_ble_eq_true rfl⟩ rfl hl.1 rfl (Nat.le_of_ble_eq_true rfl) dL_law_568 ⟨by assumption, by assumption⟩) (fun H locs hI => ?_)
                                clear hr_152
                                refine lv_icmp_eq (tgt := 971) Γ.1.1 Γ.1.2.1 dL_law_571 (by decide) (fun c_154 => ?_) (fun c_154 => ?_)
                                · replace h := ite_pos c_154 h; clear c_154
                                  obtain ⟨v4_155, e_v4_155, h⟩ := nm_some h
                                  refine lv_iinc (v := v4_155) (lv' := [(4, .int v4_155), (0, .ref bS), (1, .ref (X.2.1 + 0)), (2, .ref (X.2.1 + 60)), (3, .ref (X.2.1 + 75))]) Γ.1.1 Γ.1.2.1 dL_law_971 hl (k := 4) rfl (by rw [e_v4_155]; rfl) (by decide) rfl (fun ls hl => ?_)
                                  clear e_v4_155
                                  refine lv_goto (tgt := 23) Γ.1.1 Γ.1.2.1 dL_law_974 (by decide) ?_
                                  refine W.widen (k := cells + 1) (n := slots + 6) (by omega) (by omega) ?_
                                  exact ih σ_153 v4_155 _ _ _ (cells + 1) (slots + 6) (by omega) (by omega) hI (lv_sub hl [1, 2, 3, 4, 0] rfl) h
                                · replace h := ite_neg c_154 h; clear c_154
                                  refine lv_iconst (v := (0 : Int32)) Γ.1.1 Γ.1.2.1 dL_law_574 (by decide) ?_
                                  exact absurd (Prod.mk.inj (Option.some.inj h)).2 (by decide)
                              · replace h := ite_neg c_40_12 h
                                by_cases c_40_13 : w_3 = (13 : Int32)
                                · replace h := ite_pos c_40_13 h
                                  refine lv_tableIn (off := 536) (tgt := 576) Γ.1.1 Γ.1.2.1 dL_law_40 (by rw [c_40_13]; decide) (by rw [c_40_13]; decide) (by rw [c_40_13]; decide) (by decide) ?_
                                  refine lv_aload_n Γ.1.1 Γ.1.2.1 dL_law_576 rfl (lv_at hl 1 rfl) ?_
                                  obtain ⟨r_156, hr_156, h⟩ := ob_some h
                                  refine g_cl Γ hI (g_runV (As := []) Γ hI (S_X11_rings l X σ r_156 hr_156) mf_X11_rings (recv_X11 Γ hI) gw_909 rfl rfl ⟨Nat.le_of_ble_eq_true rfl, Nat.le_of_ble_eq_true rfl⟩ rfl hl.1 rfl (Nat.le_of_ble_eq_true rfl) dL_law_577 ⟨by assumption, by assumption⟩) (fun H locs hI => ?_)
                                  clear hr_156
                                  refine lv_aload_n Γ.1.1 Γ.1.2.1 dL_law_580 rfl (lv_at hl 2 rfl) ?_
                                  obtain ⟨σ_159, r_158, hr_158, h⟩ := ob2_some h
                                  refine g_cl Γ hI (g_runV (As := []) Γ hI (S_X12_rings l X σ σ_159 r_158 hr_158) mf_X12_rings (recv_X12 Γ hI) gw_910 rfl rfl ⟨Nat.le_of_ble_eq_true rfl, Nat.le_of_ble_eq_true rfl⟩ rfl hl.1 rfl (Nat.le_of_ble_eq_true rfl) dL_law_581 ⟨by assumption, by assumption⟩) (fun H locs hI => ?_)
                                  clear hr_158
                                  refine W.lcmp Γ.1.1 Γ.1.2.1 dL_law_584 ?_
                                  refine lv_if_eq (tgt := 971) Γ.1.1 Γ.1.2.1 dL_law_585 (by decide) (fun c_160 => ?_) (fun c_160 => ?_)
                                  · replace h := ite_pos c_160 h; clear c_160
                                    obtain ⟨v4_161, e_v4_161, h⟩ := nm_some h
                                    refine lv_iinc (v := v4_161) (lv' := [(4, .int v4_161), (0, .ref bS), (1, .ref (X.2.1 + 0)), (2, .ref (X.2.1 + 60)), (3, .ref (X.2.1 + 75))]) Γ.1.1 Γ.1.2.1 dL_law_971 hl (k := 4) rfl (by rw [e_v4_161]; rfl) (by decide) rfl (fun ls hl => ?_)
                                    clear e_v4_161
                                    refine lv_goto (tgt := 23) Γ.1.1 Γ.1.2.1 dL_law_974 (by decide) ?_
                                    refine W.widen (k := cells + 1) (n := slots + 6) (by omega) (by omega) ?_
                                    exact ih σ_159 v4_161 _ _ _ (cells + 1) (slots + 6) (by omega) (by omega) hI (lv_sub hl [1, 2, 3, 4, 0] rfl) h
                                  · replace h := ite_neg c_160 h; clear c_160
                                    refine lv_iconst (v := (0 : Int32)) Γ.1.1 Γ.1.2.1 dL_law_588 (by decide) ?_
                                    exact absurd (Prod.mk.inj (Option.some.inj h)).2 (by decide)
                                · replace h := ite_neg c_40_13 h
                                  by_cases c_40_14 : w_3 = (14 : Int32)
                                  · replace h := ite_pos c_40_14 h
                                    refine lv_tableIn (off := 550) (tgt := 590) Γ.1.1 Γ.1.2.1 dL_law_40 (by rw [c_40_14]; decide) (by rw [c_40_14]; decide) (by rw [c_40_14]; decide) (by decide) ?_
                                    refine lv_aload_n Γ.1.1 Γ.1.2.1 dL_law_590 rfl (lv_at hl 1 rfl) ?_
                                    obtain ⟨σ_163, r_162, hr_162, h⟩ := ob2_some h
                                    refine g_ci Γ hI (g_runV (As := []) Γ hI (S_X11_shortest l X σ σ_163 r_162 hr_162) mf_X11_shortest (recv_X11 Γ hI) gw_911 rfl rfl ⟨Nat.le_of_ble_eq_true rfl, Nat.le_of_ble_eq_true rfl⟩ rfl hl.1 rfl (Nat.le_of_ble_eq_true rfl) dL_law_591 ⟨by assumption, by assumption⟩) (fun H locs hI => ?_)
                                    clear hr_162
                                    refine lv_aload_n Γ.1.1 Γ.1.2.1 dL_law_594 rfl (lv_at hl 2 rfl) ?_
                                    obtain ⟨σ_165, r_164, hr_164, h⟩ := ob2_some h
                                    refine g_ci Γ hI (g_runV (As := []) Γ hI (S_X12_shortest l X σ_163 σ_165 r_164 hr_164) mf_X12_shortest (recv_X12 Γ hI) gw_912 rfl rfl ⟨Nat.le_of_ble_eq_true rfl, Nat.le_of_ble_eq_true rfl⟩ rfl hl.1 rfl (Nat.le_of_ble_eq_true rfl) dL_law_595 ⟨by assumption, by assumption⟩) (fun H locs hI => ?_)
                                    clear hr_164
                                    refine lv_icmp_eq (tgt := 971) Γ.1.1 Γ.1.2.1 dL_law_598 (by decide) (fun c_166 => ?_) (fun c_166 => ?_)
                                    · replace h := ite_pos c_166 h; clear c_166
                                      obtain ⟨v4_167, e_v4_167, h⟩ := nm_some h
                                      refine lv_iinc (v := v4_167) (lv' := [(4, .int v4_167), (0, .ref bS), (1, .ref (X.2.1 + 0)), (2, .ref (X.2.1 + 60)), (3, .ref (X.2.1 + 75))]) Γ.1.1 Γ.1.2.1 dL_law_971 hl (k := 4) rfl (by rw [e_v4_167]; rfl) (by decide) rfl (fun ls hl => ?_)
                                      clear e_v4_167
                                      refine lv_goto (tgt := 23) Γ.1.1 Γ.1.2.1 dL_law_974 (by decide) ?_
                                      refine W.widen (k := cells + 1) (n := slots + 6) (by omega) (by omega) ?_
                                      exact ih σ_165 v4_167 _ _ _ (cells + 1) (slots + 6) (by omega) (by omega) hI (lv_sub hl [1, 2, 3, 4, 0] rfl) h
                                    · replace h := ite_neg c_166 h; clear c_166
                                      refine lv_iconst (v := (0 : Int32)) Γ.1.1 Γ.1.2.1 dL_law_601 (by decide) ?_
                                      exact absurd (Prod.mk.inj (Option.some.inj h)).2 (by decide)
                                  · replace h := ite_neg c_40_14 h
                                    by_cases c_40_15 : w_3 = (15 : Int32)
                                    · replace h := ite_pos c_40_15 h
                                      refine lv_tableIn (off := 563) (tgt := 603) Γ.1.1 Γ.1.2.1 dL_law_40 (by rw [c_40_15]; decide) (by rw [c_40_15]; decide) (by rw [c_40_15]; decide) (by decide) ?_
                                      refine lv_aload_n Γ.1.1 Γ.1.2.1 dL_law_603 rfl (lv_at hl 1 rfl) ?_
                                      obtain ⟨σ_169, r_168, hr_168, h⟩ := ob2_some h
                                      refine g_ci Γ hI (g_runV (As := []) Γ hI (S_X11_packed l X σ σ_169 r_168 hr_168) mf_X11_packed (recv_X11 Γ hI) gw_913 rfl rfl ⟨Nat.le_of_ble_eq_true rfl, Nat.le_of_ble_eq_true rfl⟩ rfl hl.1 rfl (Nat.le_of_ble_eq_true rfl) dL_law_604 ⟨by assumption, by assumption⟩) (fun H locs hI => ?_)
                                      clear hr_168
                                      refine lv_aload_n Γ.1.1 Γ.1.2.1 dL_law_607 rfl (lv_at hl 2 rfl) ?_
                                      obtain ⟨σ_171, r_170, hr_170, h⟩ := ob2_some h
                                      refine g_ci Γ hI (g_runV (As := []) Γ hI (S_X12_packed l X σ_169 σ_171 r_170 hr_170) mf_X12_packed (recv_X12 Γ hI) gw_914 rfl rfl ⟨Nat.le_of_ble_eq_true rfl, Nat.le_of_ble_eq_true rfl⟩ rfl hl.1 rfl (Nat.le_of_ble_eq_true rfl) dL_law_608 ⟨by assumption, by assumption⟩) (fun H locs hI => ?_)
                                      clear hr_170
                                      refine lv_icmp_eq (tgt := 971) Γ.1.1 Γ.1.2.1 dL_law_611 (by decide) (fun c_172 => ?_) (fun c_172 => ?_)
                                      · replace h := ite_pos c_172 h; clear c_172
                                        obtain ⟨v4_173, e_v4_173, h⟩ := nm_some h
                                        refine lv_iinc (v := v4_173) (lv' := [(4, .int v4_173), (0, .ref bS), (1, .ref (X.2.1 + 0)), (2, .ref (X.2.1 + 60)), (3, .ref (X.2.1 + 75))]) Γ.1.1 Γ.1.2.1 dL_law_971 hl (k := 4) rfl (by rw [e_v4_173]; rfl) (by decide) rfl (fun ls hl => ?_)
                                        clear e_v4_173
                                        refine lv_goto (tgt := 23) Γ.1.1 Γ.1.2.1 dL_law_974 (by decide) ?_
                                        refine W.widen (k := cells + 1) (n := slots + 6) (by omega) (by omega) ?_
                                        exact ih σ_171 v4_173 _ _ _ (cells + 1) (slots + 6) (by omega) (by omega) hI (lv_sub hl [1, 2, 3, 4, 0] rfl) h
                                      · replace h := ite_neg c_172 h; clear c_172
                                        refine lv_iconst (v := (0 : Int32)) Γ.1.1 Γ.1.2.1 dL_law_614 (by decide) ?_
                                        exact absurd (Prod.mk.inj (Option.some.inj h)).2 (by decide)
                                    · replace h := ite_neg c_40_15 h
                                      by_cases c_40_16 : w_3 = (16 : Int32)
                                      · replace h := ite_pos c_40_16 h
                                        refine lv_tableIn (off := 576) (tgt := 616) Γ.1.1 Γ.1.2.1 dL_law_40 (by rw [c_40_16]; decide) (by rw [c_40_16]; decide) (by rw [c_40_16]; decide) (by decide) ?_
                                        refine lv_aload_n Γ.1.1 Γ.1.2.1 dL_law_616 rfl (lv_at hl 1 rfl) ?_
                                        refine lv_aload_n Γ.1.1 Γ.1.2.1 dL_law_617 rfl (lv_at hl 0 rfl) ?_
                                        refine lv_iload Γ.1.1 Γ.1.2.1 dL_law_618 (lv_at hl 4 rfl) ?_
                                        refine lv_iconst (v := (1 : Int32)) Γ.1.1 Γ.1.2.1 dL_law_620 (by decide) ?_
                                        refine lv_iadd Γ.1.1 Γ.1.2.1 dL_law_621 ?_
                                        refine lv_topi (fun i_174 e_i_174 => ?_)
                                        replace h := nm_at e_i_174 h; clear e_i_174
                                        obtain ⟨hb_175, h⟩ := bnd_some h
                                        refine va_sld Γ.1.1 Γ.1.2.1 hX hbl hbA hI.2 hb_175 dL_law_622 ?_
                                        obtain ⟨σ_177, r_176, hr_176, h⟩ := ob2_some h
                                        refine g_ci Γ hI (g_runV (As := [.int (xs i_174.toNatClampNeg)]) Γ hI (S_X11_pack l X σ (xs i_174.toNatClampNeg) σ_177 r_176 hr_176) mf_X11_pack (recv_X11 Γ hI) gw_915 rfl rfl ⟨Nat.le_of_ble_eq_true rfl, Nat.le_of_ble_eq_true rfl⟩ rfl hl.1 rfl (Nat.le_of_ble_eq_true rfl) dL_law_623 ⟨by assumption, by assumption⟩) (fun H locs hI => ?_)
                                        clear hr_176
                                        refine lv_aload_n Γ.1.1 Γ.1.2.1 dL_law_626 rfl (lv_at hl 2 rfl) ?_
                                        refine lv_aload_n Γ.1.1 Γ.1.2.1 dL_law_627 rfl (lv_at hl 0 rfl) ?_
                                        refine lv_iload Γ.1.1 Γ.1.2.1 dL_law_628 (lv_at hl 4 rfl) ?_
                                        refine lv_iconst (v := (1 : Int32)) Γ.1.1 Γ.1.2.1 dL_law_630 (by decide) ?_
                                        refine lv_iadd Γ.1.1 Γ.1.2.1 dL_law_631 ?_
                                        refine lv_topi (fun i_178 e_i_178 => ?_)
                                        replace h := nm_at e_i_178 h; clear e_i_178
                                        obtain ⟨hb_179, h⟩ := bnd_some h
                                        refine va_sld Γ.1.1 Γ.1.2.1 hX hbl hbA hI.2 hb_179 dL_law_632 ?_
                                        obtain ⟨σ_181, r_180, hr_180, h⟩ := ob2_some h
                                        refine g_ci Γ hI (g_runV (As := [.int (xs i_178.toNatClampNeg)]) Γ hI (S_X12_pack l X σ_177 (xs i_178.toNatClampNeg) σ_181 r_180 hr_180) mf_X12_pack (recv_X12 Γ hI) gw_916 rfl rfl ⟨Nat.le_of_ble_eq_true rfl, Nat.le_of_ble_eq_true rfl⟩ rfl hl.1 rfl (Nat.le_of_ble_eq_true rfl) dL_law_633 ⟨by assumption, by assumption⟩) (fun H locs hI => ?_)
                                        clear hr_180
                                        refine lv_icmp_eq (tgt := 971) Γ.1.1 Γ.1.2.1 dL_law_636 (by decide) (fun c_182 => ?_) (fun c_182 => ?_)
                                        · replace h := ite_pos c_182 h; clear c_182
                                          obtain ⟨v4_183, e_v4_183, h⟩ := nm_some h
                                          refine lv_iinc (v := v4_183) (lv' := [(4, .int v4_183), (0, .ref bS), (1, .ref (X.2.1 + 0)), (2, .ref (X.2.1 + 60)), (3, .ref (X.2.1 + 75))]) Γ.1.1 Γ.1.2.1 dL_law_971 hl (k := 4) rfl (by rw [e_v4_183]; rfl) (by decide) rfl (fun ls hl => ?_)
                                          clear e_v4_183
                                          refine lv_goto (tgt := 23) Γ.1.1 Γ.1.2.1 dL_law_974 (by decide) ?_
                                          refine W.widen (k := cells + 1) (n := slots + 6) (by omega) (by omega) ?_
                                          exact ih σ_181 v4_183 _ _ _ (cells + 1) (slots + 6) (by omega) (by omega) hI (lv_sub hl [1, 2, 3, 4, 0] rfl) h
                                        · replace h := ite_neg c_182 h; clear c_182
                                          refine lv_iconst (v := (0 : Int32)) Γ.1.1 Γ.1.2.1 dL_law_639 (by decide) ?_
                                          exact absurd (Prod.mk.inj (Option.some.inj h)).2 (by decide)
                                      · replace h := ite_neg c_40_16 h
                                        by_cases c_40_17 : w_3 = (17 : Int32)
                                        · replace h := ite_pos c_40_17 h
                                          refine lv_tableIn (off := 601) (tgt := 641) Γ.1.1 Γ.1.2.1 dL_law_40 (by rw [c_40_17]; decide) (by rw [c_40_17]; decide) (by rw [c_40_17]; decide) (by decide) ?_
                                          refine lv_aload_n Γ.1.1 Γ.1.2.1 dL_law_641 rfl (lv_at hl 1 rfl) ?_
                                          obtain ⟨σ_185, r_184, hr_184, h⟩ := ob2_some h
                                          refine g_ci Γ hI (g_runV (As := []) Γ hI (S_X11_near l X σ σ_185 r_184 hr_184) mf_X11_near (recv_X11 Γ hI) gw_917 rfl rfl ⟨Nat.le_of_ble_eq_true rfl, Nat.le_of_ble_eq_true rfl⟩ rfl hl.1 rfl (Nat.le_of_ble_eq_true rfl) dL_law_642 ⟨by assumption, by assumption⟩) (fun H locs hI => ?_)
                                          clear hr_184
                                          refine lv_aload_n Γ.1.1 Γ.1.2.1 dL_law_645 rfl (lv_at hl 2 rfl) ?_
                                          obtain ⟨σ_187, r_186, hr_186, h⟩ := ob2_some h
                                          refine g_ci Γ hI (g_runV (As := []) Γ hI (S_X12_near l X σ_185 σ_187 r_186 hr_186) mf_X12_near (recv_X12 Γ hI) gw_918 rfl rfl ⟨Nat.le_of_ble_eq_true rfl, Nat.le_of_ble_eq_true rfl⟩ rfl hl.1 rfl (Nat.le_of_ble_eq_true rfl) dL_law_646 ⟨by assumption, by assumption⟩) (fun H locs hI => ?_)
                                          clear hr_186
                                          refine lv_icmp_eq (tgt := 971) Γ.1.1 Γ.1.2.1 dL_law_649 (by decide) (fun c_188 => ?_) (fun c_188 => ?_)
                                          · replace h := ite_pos c_188 h; clear c_188
                                            obtain ⟨v4_189, e_v4_189, h⟩ := nm_some h
                                            refine lv_iinc (v := v4_189) (lv' := [(4, .int v4_189), (0, .ref bS), (1, .ref (X.2.1 + 0)), (2, .ref (X.2.1 + 60)), (3, .ref (X.2.1 + 75))]) Γ.1.1 Γ.1.2.1 dL_law_971 hl (k := 4) rfl (by rw [e_v4_189]; rfl) (by decide) rfl (fun ls hl => ?_)
                                            clear e_v4_189
                                            refine lv_goto (tgt := 23) Γ.1.1 Γ.1.2.1 dL_law_974 (by decide) ?_
                                            refine W.widen (k := cells + 1) (n := slots + 6) (by omega) (by omega) ?_
                                            exact ih σ_187 v4_189 _ _ _ (cells + 1) (slots + 6) (by omega) (by omega) hI (lv_sub hl [1, 2, 3, 4, 0] rfl) h
                                          · replace h := ite_neg c_188 h; clear c_188
                                            refine lv_iconst (v := (0 : Int32)) Γ.1.1 Γ.1.2.1 dL_law_652 (by decide) ?_
                                            exact absurd (Prod.mk.inj (Option.some.inj h)).2 (by decide)
                                        · replace h := ite_neg c_40_17 h
                                          by_cases c_40_18 : w_3 = (18 : Int32)
                                          · replace h := ite_pos c_40_18 h
                                            refine lv_tableIn (off := 614) (tgt := 654) Γ.1.1 Γ.1.2.1 dL_law_40 (by rw [c_40_18]; decide) (by rw [c_40_18]; decide) (by rw [c_40_18]; decide) (by decide) ?_
                                            refine lv_aload_n Γ.1.1 Γ.1.2.1 dL_law_654 rfl (lv_at hl 1 rfl) ?_
                                            refine lv_aload_n Γ.1.1 Γ.1.2.1 dL_law_655 rfl (lv_at hl 0 rfl) ?_
                                            refine lv_iload Γ.1.1 Γ.1.2.1 dL_law_656 (lv_at hl 4 rfl) ?_
                                            refine lv_iconst (v := (1 : Int32)) Γ.1.1 Γ.1.2.1 dL_law_658 (by decide) ?_
                                            refine lv_iadd Γ.1.1 Γ.1.2.1 dL_law_659 ?_
                                            refine lv_topi (fun i_190 e_i_190 => ?_)
                                            replace h := nm_at e_i_190 h; clear e_i_190
                                            obtain ⟨hb_191, h⟩ := bnd_some h
                                            refine va_sld Γ.1.1 Γ.1.2.1 hX hbl hbA hI.2 hb_191 dL_law_660 ?_
                                            refine lv_aload_n Γ.1.1 Γ.1.2.1 dL_law_661 rfl (lv_at hl 3 rfl) ?_
                                            obtain ⟨σ_193, r_192, hr_192, h⟩ := ob2_some h
                                            refine g_c1 (As := [.ref (X.2.1 + 0), .int (xs i_190.toNatClampNeg), .ref (X.2.1 + 75)]) Γ hI hZ (S_L_bound l X σ (xs i_190.toNatClampNeg) hcst σ_193 r_192 hr_192) mfw_bound gw_919 ⟨Nat.le_of_ble_eq_true rfl, Nat.le_of_ble_eq_true rfl⟩ rfl hl.1 rfl (Nat.le_of_ble_eq_true rfl) dL_law_662 ⟨hcs3, hcs4⟩ (fun H locs hI => ?_)
                                            clear hr_192
                                            refine lv_istore (lv' := [(5, .int r_192), (0, .ref bS), (1, .ref (X.2.1 + 0)), (2, .ref (X.2.1 + 60)), (3, .ref (X.2.1 + 75)), (4, .int v4)]) Γ.1.1 Γ.1.2.1 dL_law_665 hl (by decide) rfl (fun ls hl => ?_)
                                            refine lv_aload_n Γ.1.1 Γ.1.2.1 dL_law_667 rfl (lv_at hl 3 rfl) ?_
                                            refine lv_aload_n Γ.1.1 Γ.1.2.1 dL_law_668 rfl (lv_at hl 1 rfl) ?_
                                            refine lv_iload Γ.1.1 Γ.1.2.1 dL_law_669 (lv_at hl 5 rfl) ?_
                                            refine lv_iconst (v := (1 : Int32)) Γ.1.1 Γ.1.2.1 dL_law_671 (by decide) ?_
                                            refine lv_iadd Γ.1.1 Γ.1.2.1 dL_law_672 ?_
                                            refine lv_topi (fun i_194 e_i_194 => ?_)
                                            replace h := nm_at e_i_194 h; clear e_i_194
                                            obtain ⟨hb_195, h⟩ := bnd_some h
                                            refine va_sld Γ.1.1 Γ.1.2.1 hX hbl hbA hI.2 hb_195 dL_law_673 ?_
                                            obtain ⟨σ_197, r_196, hr_196, h⟩ := ob2_some h
                                            refine g_cl Γ hI (g_runV (As := [.int (xs i_194.toNatClampNeg)]) Γ hI (S_X12_bound l X σ_193 (xs i_194.toNatClampNeg) σ_197 r_196 hr_196) mf_X12_bound (recv_X12 Γ hI) gw_920 rfl rfl ⟨Nat.le_of_ble_eq_true rfl, Nat.le_of_ble_eq_true rfl⟩ rfl hl.1 rfl (Nat.le_of_ble_eq_true rfl) dL_law_674 ⟨by assumption, by assumption⟩) (fun H locs hI => ?_)
                                            clear hr_196
                                            refine lv_lstore (lv' := [(6, .long r_196), (5, .int r_192), (0, .ref bS), (1, .ref (X.2.1 + 0)), (2, .ref (X.2.1 + 60)), (3, .ref (X.2.1 + 75)), (4, .int v4)]) Γ.1.1 Γ.1.2.1 dL_law_677 hl (by decide) rfl (fun ls hl => ?_)
                                            refine lv_aload_n Γ.1.1 Γ.1.2.1 dL_law_679 rfl (lv_at hl 4 rfl) ?_
                                            obtain ⟨r_198, hr_198, h⟩ := ob_some h
                                            refine g_ci Γ hI (g_runV (As := []) Γ hI (S_X12_thrown l X σ_197 r_198 hr_198) mf_X12_thrown (recv_X12 Γ hI) gw_894 rfl rfl ⟨Nat.le_of_ble_eq_true rfl, Nat.le_of_ble_eq_true rfl⟩ rfl hl.1 rfl (Nat.le_of_ble_eq_true rfl) dL_law_680 ⟨by assumption, by assumption⟩) (fun H locs hI => ?_)
                                            clear hr_198
                                            refine lv_iload Γ.1.1 Γ.1.2.1 dL_law_683 (lv_at hl 1 rfl) ?_
                                            refine lv_icmp_eq (tgt := 690) Γ.1.1 Γ.1.2.1 dL_law_685 (by decide) (fun c_200 => ?_) (fun c_200 => ?_)
                                            · replace h := ite_pos c_200 h; clear c_200
                                              refine lv_iload Γ.1.1 Γ.1.2.1 dL_law_690 (lv_at hl 1 rfl) ?_
                                              refine lv_if_ne (tgt := 706) Γ.1.1 Γ.1.2.1 dL_law_692 (by decide) (fun c_201 => ?_) (fun c_201 => ?_)
                                              · replace h := ite_neg c_201 h; clear c_201
                                                refine lv_goto (tgt := 971) Γ.1.1 Γ.1.2.1 dL_law_706 (by decide) ?_
                                                obtain ⟨v4_202, e_v4_202, h⟩ := nm_some h
                                                refine lv_iinc (v := v4_202) (lv' := [(4, .int v4_202), (6, .long r_196), (5, .int r_192), (0, .ref bS), (1, .ref (X.2.1 + 0)), (2, .ref (X.2.1 + 60)), (3, .ref (X.2.1 + 75))]) Γ.1.1 Γ.1.2.1 dL_law_971 hl (k := 6) rfl (by rw [e_v4_202]; rfl) (by decide) rfl (fun ls hl => ?_)
                                                clear e_v4_202
                                                refine lv_goto (tgt := 23) Γ.1.1 Γ.1.2.1 dL_law_974 (by decide) ?_
                                                refine W.widen (k := cells + 1) (n := slots + 6) (by omega) (by omega) ?_
                                                exact ih σ_197 v4_202 _ _ _ (cells + 1) (slots + 6) (by omega) (by omega) hI (lv_sub hl [3, 4, 5, 6, 0] rfl) h
                                              · replace h := ite_pos c_201 h; clear c_201
                                                refine lv_aload_n Γ.1.1 Γ.1.2.1 dL_law_695 rfl (lv_at hl 5 rfl) ?_
                                                refine lv_iconst (v := (0 : Int32)) Γ.1.1 Γ.1.2.1 dL_law_696 (by decide) ?_
                                                obtain ⟨hb_203, h⟩ := bnd_some h
                                                refine g_lald Γ hI sh_75 hb_203 dL_law_697 ?_
                                                refine lv_lload Γ.1.1 Γ.1.2.1 dL_law_698 (lv_at hl 0 rfl) ?_
                                                refine W.lcmp Γ.1.1 Γ.1.2.1 dL_law_700 ?_
                                                refine lv_if_eq (tgt := 706) Γ.1.1 Γ.1.2.1 dL_law_701 (by decide) (fun c_204 => ?_) (fun c_204 => ?_)
                                                · replace h := ite_pos c_204 h; clear c_204
                                                  refine lv_goto (tgt := 971) Γ.1.1 Γ.1.2.1 dL_law_706 (by decide) ?_
                                                  obtain ⟨v4_205, e_v4_205, h⟩ := nm_some h
                                                  refine lv_iinc (v := v4_205) (lv' := [(4, .int v4_205), (6, .long r_196), (5, .int r_192), (0, .ref bS), (1, .ref (X.2.1 + 0)), (2, .ref (X.2.1 + 60)), (3, .ref (X.2.1 + 75))]) Γ.1.1 Γ.1.2.1 dL_law_971 hl (k := 6) rfl (by rw [e_v4_205]; rfl) (by decide) rfl (fun ls hl => ?_)
                                                  clear e_v4_205
                                                  refine lv_goto (tgt := 23) Γ.1.1 Γ.1.2.1 dL_law_974 (by decide) ?_
                                                  refine W.widen (k := cells + 1) (n := slots + 6) (by omega) (by omega) ?_
                                                  exact ih σ_197 v4_205 _ _ _ (cells + 1) (slots + 6) (by omega) (by omega) hI (lv_sub hl [3, 4, 5, 6, 0] rfl) h
                                                · replace h := ite_neg c_204 h; clear c_204
                                                  refine lv_iconst (v := (0 : Int32)) Γ.1.1 Γ.1.2.1 dL_law_704 (by decide) ?_
                                                  exact absurd (Prod.mk.inj (Option.some.inj h)).2 (by decide)
                                            · replace h := ite_neg c_200 h; clear c_200
                                              refine lv_iconst (v := (0 : Int32)) Γ.1.1 Γ.1.2.1 dL_law_688 (by decide) ?_
                                              exact absurd (Prod.mk.inj (Option.some.inj h)).2 (by decide)
                                          · replace h := ite_neg c_40_18 h
                                            by_cases c_40_19 : w_3 = (19 : Int32)
                                            · replace h := ite_pos c_40_19 h
                                              refine lv_tableIn (off := 669) (tgt := 709) Γ.1.1 Γ.1.2.1 dL_law_40 (by rw [c_40_19]; decide) (by rw [c_40_19]; decide) (by rw [c_40_19]; decide) (by decide) ?_
                                              refine lv_aload_n Γ.1.1 Γ.1.2.1 dL_law_709 rfl (lv_at hl 1 rfl) ?_
                                              obtain ⟨σ_207, r_206, hr_206, h⟩ := ob2_some h
                                              refine g_ci Γ hI (g_runV (As := []) Γ hI (S_X11_shrink l X σ σ_207 r_206 hr_206) mf_X11_shrink (recv_X11 Γ hI) gw_921 rfl rfl ⟨Nat.le_of_ble_eq_true rfl, Nat.le_of_ble_eq_true rfl⟩ rfl hl.1 rfl (Nat.le_of_ble_eq_true rfl) dL_law_710 ⟨by assumption, by assumption⟩) (fun H locs hI => ?_)
                                              clear hr_206
                                              refine lv_aload_n Γ.1.1 Γ.1.2.1 dL_law_713 rfl (lv_at hl 2 rfl) ?_
                                              obtain ⟨σ_209, r_208, hr_208, h⟩ := ob2_some h
                                              refine g_ci Γ hI (g_runV (As := []) Γ hI (S_X12_shrink l X σ_207 σ_209 r_208 hr_208) mf_X12_shrink (recv_X12 Γ hI) gw_922 rfl rfl ⟨Nat.le_of_ble_eq_true rfl, Nat.le_of_ble_eq_true rfl⟩ rfl hl.1 rfl (Nat.le_of_ble_eq_true rfl) dL_law_714 ⟨by assumption, by assumption⟩) (fun H locs hI => ?_)
                                              clear hr_208
                                              refine lv_icmp_eq (tgt := 971) Γ.1.1 Γ.1.2.1 dL_law_717 (by decide) (fun c_210 => ?_) (fun c_210 => ?_)
                                              · replace h := ite_pos c_210 h; clear c_210
                                                obtain ⟨v4_211, e_v4_211, h⟩ := nm_some h
                                                refine lv_iinc (v := v4_211) (lv' := [(4, .int v4_211), (0, .ref bS), (1, .ref (X.2.1 + 0)), (2, .ref (X.2.1 + 60)), (3, .ref (X.2.1 + 75))]) Γ.1.1 Γ.1.2.1 dL_law_971 hl (k := 4) rfl (by rw [e_v4_211]; rfl) (by decide) rfl (fun ls hl => ?_)
                                                clear e_v4_211
                                                refine lv_goto (tgt := 23) Γ.1.1 Γ.1.2.1 dL_law_974 (by decide) ?_
                                                refine W.widen (k := cells + 1) (n := slots + 6) (by omega) (by omega) ?_
                                                exact ih σ_209 v4_211 _ _ _ (cells + 1) (slots + 6) (by omega) (by omega) hI (lv_sub hl [1, 2, 3, 4, 0] rfl) h
                                              · replace h := ite_neg c_210 h; clear c_210
                                                refine lv_iconst (v := (0 : Int32)) Γ.1.1 Γ.1.2.1 dL_law_720 (by decide) ?_
                                                exact absurd (Prod.mk.inj (Option.some.inj h)).2 (by decide)
                                            · replace h := ite_neg c_40_19 h
                                              by_cases c_40_20 : w_3 = (20 : Int32)
                                              · replace h := ite_pos c_40_20 h
                                                refine lv_tableIn (off := 682) (tgt := 722) Γ.1.1 Γ.1.2.1 dL_law_40 (by rw [c_40_20]; decide) (by rw [c_40_20]; decide) (by rw [c_40_20]; decide) (by decide) ?_
                                                refine lv_aload_n Γ.1.1 Γ.1.2.1 dL_law_722 rfl (lv_at hl 1 rfl) ?_
                                                obtain ⟨σ_213, r_212, hr_212, h⟩ := ob2_some h
                                                refine g_ci Γ hI (g_runV (As := []) Γ hI (S_X11_shrinkAll l X σ σ_213 r_212 hr_212) mf_X11_shrinkAll (recv_X11 Γ hI) gw_923 rfl rfl ⟨Nat.le_of_ble_eq_true rfl, Nat.le_of_ble_eq_true rfl⟩ rfl hl.1 rfl (Nat.le_of_ble_eq_true rfl) dL_law_723 ⟨by assumption, by assumption⟩) (fun H locs hI => ?_)
                                                clear hr_212
                                                refine lv_aload_n Γ.1.1 Γ.1.2.1 dL_law_726 rfl (lv_at hl 2 rfl) ?_
                                                obtain ⟨σ_215, r_214, hr_214, h⟩ := ob2_some h
                                                refine g_ci Γ hI (g_runV (As := []) Γ hI (S_X12_shrinkAll l X σ_213 σ_215 r_214 hr_214) mf_X12_shrinkAll (recv_X12 Γ hI) gw_924 rfl rfl ⟨Nat.le_of_ble_eq_true rfl, Nat.le_of_ble_eq_true rfl⟩ rfl hl.1 rfl (Nat.le_of_ble_eq_true rfl) dL_law_727 ⟨by assumption, by assumption⟩) (fun H locs hI => ?_)
                                                clear hr_214
                                                refine lv_icmp_eq (tgt := 971) Γ.1.1 Γ.1.2.1 dL_law_730 (by decide) (fun c_216 => ?_) (fun c_216 => ?_)
                                                · replace h := ite_pos c_216 h; clear c_216
                                                  obtain ⟨v4_217, e_v4_217, h⟩ := nm_some h
                                                  refine lv_iinc (v := v4_217) (lv' := [(4, .int v4_217), (0, .ref bS), (1, .ref (X.2.1 + 0)), (2, .ref (X.2.1 + 60)), (3, .ref (X.2.1 + 75))]) Γ.1.1 Γ.1.2.1 dL_law_971 hl (k := 4) rfl (by rw [e_v4_217]; rfl) (by decide) rfl (fun ls hl => ?_)
                                                  clear e_v4_217
                                                  refine lv_goto (tgt := 23) Γ.1.1 Γ.1.2.1 dL_law_974 (by decide) ?_
                                                  refine W.widen (k := cells + 1) (n := slots + 6) (by omega) (by omega) ?_
                                                  exact ih σ_215 v4_217 _ _ _ (cells + 1) (slots + 6) (by omega) (by omega) hI (lv_sub hl [1, 2, 3, 4, 0] rfl) h
                                                · replace h := ite_neg c_216 h; clear c_216
                                                  refine lv_iconst (v := (0 : Int32)) Γ.1.1 Γ.1.2.1 dL_law_733 (by decide) ?_
                                                  exact absurd (Prod.mk.inj (Option.some.inj h)).2 (by decide)
                                              · replace h := ite_neg c_40_20 h
                                                by_cases c_40_21 : w_3 = (21 : Int32)
                                                · replace h := ite_pos c_40_21 h
                                                  refine lv_tableIn (off := 695) (tgt := 735) Γ.1.1 Γ.1.2.1 dL_law_40 (by rw [c_40_21]; decide) (by rw [c_40_21]; decide) (by rw [c_40_21]; decide) (by decide) ?_
                                                  refine lv_aload_n Γ.1.1 Γ.1.2.1 dL_law_735 rfl (lv_at hl 1 rfl) ?_
                                                  refine lv_aload_n Γ.1.1 Γ.1.2.1 dL_law_736 rfl (lv_at hl 0 rfl) ?_
                                                  refine lv_iload Γ.1.1 Γ.1.2.1 dL_law_737 (lv_at hl 4 rfl) ?_
                                                  refine lv_iconst (v := (1 : Int32)) Γ.1.1 Γ.1.2.1 dL_law_739 (by decide) ?_
                                                  refine lv_iadd Γ.1.1 Γ.1.2.1 dL_law_740 ?_
                                                  refine lv_topi (fun i_218 e_i_218 => ?_)
                                                  replace h := nm_at e_i_218 h; clear e_i_218
                                                  obtain ⟨hb_219, h⟩ := bnd_some h
                                                  refine va_sld Γ.1.1 Γ.1.2.1 hX hbl hbA hI.2 hb_219 dL_law_741 ?_
                                                  obtain ⟨σ_221, r_220, hr_220, h⟩ := ob2_some h
                                                  refine g_ci Γ hI (g_runV (As := [.int (xs i_218.toNatClampNeg)]) Γ hI (S_X11_drop l X σ (xs i_218.toNatClampNeg) σ_221 r_220 hr_220) mf_X11_drop (recv_X11 Γ hI) gw_925 rfl rfl ⟨Nat.le_of_ble_eq_true rfl, Nat.le_of_ble_eq_true rfl⟩ rfl hl.1 rfl (Nat.le_of_ble_eq_true rfl) dL_law_742 ⟨by assumption, by assumption⟩) (fun H locs hI => ?_)
                                                  clear hr_220
                                                  refine lv_aload_n Γ.1.1 Γ.1.2.1 dL_law_745 rfl (lv_at hl 2 rfl) ?_
                                                  refine lv_aload_n Γ.1.1 Γ.1.2.1 dL_law_746 rfl (lv_at hl 0 rfl) ?_
                                                  refine lv_iload Γ.1.1 Γ.1.2.1 dL_law_747 (lv_at hl 4 rfl) ?_
                                                  refine lv_iconst (v := (1 : Int32)) Γ.1.1 Γ.1.2.1 dL_law_749 (by decide) ?_
                                                  refine lv_iadd Γ.1.1 Γ.1.2.1 dL_law_750 ?_
                                                  refine lv_topi (fun i_222 e_i_222 => ?_)
                                                  replace h := nm_at e_i_222 h; clear e_i_222
                                                  obtain ⟨hb_223, h⟩ := bnd_some h
                                                  refine va_sld Γ.1.1 Γ.1.2.1 hX hbl hbA hI.2 hb_223 dL_law_751 ?_
                                                  obtain ⟨σ_225, r_224, hr_224, h⟩ := ob2_some h
                                                  refine g_ci Γ hI (g_runV (As := [.int (xs i_222.toNatClampNeg)]) Γ hI (S_X12_drop l X σ_221 (xs i_222.toNatClampNeg) σ_225 r_224 hr_224) mf_X12_drop (recv_X12 Γ hI) gw_926 rfl rfl ⟨Nat.le_of_ble_eq_true rfl, Nat.le_of_ble_eq_true rfl⟩ rfl hl.1 rfl (Nat.le_of_ble_eq_true rfl) dL_law_752 ⟨by assumption, by assumption⟩) (fun H locs hI => ?_)
                                                  clear hr_224
                                                  refine lv_icmp_eq (tgt := 971) Γ.1.1 Γ.1.2.1 dL_law_755 (by decide) (fun c_226 => ?_) (fun c_226 => ?_)
                                                  · replace h := ite_pos c_226 h; clear c_226
                                                    obtain ⟨v4_227, e_v4_227, h⟩ := nm_some h
                                                    refine lv_iinc (v := v4_227) (lv' := [(4, .int v4_227), (0, .ref bS), (1, .ref (X.2.1 + 0)), (2, .ref (X.2.1 + 60)), (3, .ref (X.2.1 + 75))]) Γ.1.1 Γ.1.2.1 dL_law_971 hl (k := 4) rfl (by rw [e_v4_227]; rfl) (by decide) rfl (fun ls hl => ?_)
                                                    clear e_v4_227
                                                    refine lv_goto (tgt := 23) Γ.1.1 Γ.1.2.1 dL_law_974 (by decide) ?_
                                                    refine W.widen (k := cells + 1) (n := slots + 6) (by omega) (by omega) ?_
                                                    exact ih σ_225 v4_227 _ _ _ (cells + 1) (slots + 6) (by omega) (by omega) hI (lv_sub hl [1, 2, 3, 4, 0] rfl) h
                                                  · replace h := ite_neg c_226 h; clear c_226
                                                    refine lv_iconst (v := (0 : Int32)) Γ.1.1 Γ.1.2.1 dL_law_758 (by decide) ?_
                                                    exact absurd (Prod.mk.inj (Option.some.inj h)).2 (by decide)
                                                · replace h := ite_neg c_40_21 h
                                                  by_cases c_40_22 : w_3 = (22 : Int32)
                                                  · replace h := ite_pos c_40_22 h
                                                    refine lv_tableIn (off := 720) (tgt := 760) Γ.1.1 Γ.1.2.1 dL_law_40 (by rw [c_40_22]; decide) (by rw [c_40_22]; decide) (by rw [c_40_22]; decide) (by decide) ?_
                                                    refine lv_aload_n Γ.1.1 Γ.1.2.1 dL_law_760 rfl (lv_at hl 1 rfl) ?_
                                                    refine lv_aload_n Γ.1.1 Γ.1.2.1 dL_law_761 rfl (lv_at hl 0 rfl) ?_
                                                    refine lv_iload Γ.1.1 Γ.1.2.1 dL_law_762 (lv_at hl 4 rfl) ?_
                                                    refine lv_iconst (v := (1 : Int32)) Γ.1.1 Γ.1.2.1 dL_law_764 (by decide) ?_
                                                    refine lv_iadd Γ.1.1 Γ.1.2.1 dL_law_765 ?_
                                                    refine lv_topi (fun i_228 e_i_228 => ?_)
                                                    replace h := nm_at e_i_228 h; clear e_i_228
                                                    obtain ⟨hb_229, h⟩ := bnd_some h
                                                    refine va_sld Γ.1.1 Γ.1.2.1 hX hbl hbA hI.2 hb_229 dL_law_766 ?_
                                                    refine lv_aload_n Γ.1.1 Γ.1.2.1 dL_law_767 rfl (lv_at hl 0 rfl) ?_
                                                    refine lv_iload Γ.1.1 Γ.1.2.1 dL_law_768 (lv_at hl 4 rfl) ?_
                                                    refine lv_iconst (v := (2 : Int32)) Γ.1.1 Γ.1.2.1 dL_law_770 (by decide) ?_
                                                    refine lv_iadd Γ.1.1 Γ.1.2.1 dL_law_771 ?_
                                                    refine lv_topi (fun i_230 e_i_230 => ?_)
                                                    replace h := nm_at e_i_230 h; clear e_i_230
                                                    obtain ⟨hb_231, h⟩ := bnd_some h
                                                    refine va_sld Γ.1.1 Γ.1.2.1 hX hbl hbA hI.2 hb_231 dL_law_772 ?_
                                                    obtain ⟨σ_233, r_232, hr_232, h⟩ := ob2_some h
                                                    refine g_ci Γ hI (g_runV (As := [.int (xs i_228.toNatClampNeg), .int (xs i_230.toNatClampNeg)]) Γ hI (S_X11_join l X σ (xs i_228.toNatClampNeg) (xs i_230.toNatClampNeg) σ_233 r_232 hr_232) mf_X11_join (recv_X11 Γ hI) gw_927 rfl rfl ⟨Nat.le_of_ble_eq_true rfl, Nat.le_of_ble_eq_true rfl⟩ rfl hl.1 rfl (Nat.le_of_ble_eq_true rfl) dL_law_773 ⟨by assumption, by assumption⟩) (fun H locs hI => ?_)
                                                    clear hr_232
                                                    refine lv_aload_n Γ.1.1 Γ.1.2.1 dL_law_776 rfl (lv_at hl 2 rfl) ?_
                                                    refine lv_aload_n Γ.1.1 Γ.1.2.1 dL_law_777 rfl (lv_at hl 0 rfl) ?_
                                                    refine lv_iload Γ.1.1 Γ.1.2.1 dL_law_778 (lv_at hl 4 rfl) ?_
                                                    refine lv_iconst (v := (1 : Int32)) Γ.1.1 Γ.1.2.1 dL_law_780 (by decide) ?_
                                                    refine lv_iadd Γ.1.1 Γ.1.2.1 dL_law_781 ?_
                                                    refine lv_topi (fun i_234 e_i_234 => ?_)
                                                    replace h := nm_at e_i_234 h; clear e_i_234
                                                    obtain ⟨hb_235, h⟩ := bnd_some h
                                                    refine va_sld Γ.1.1 Γ.1.2.1 hX hbl hbA hI.2 hb_235 dL_law_782 ?_
                                                    refine lv_aload_n Γ.1.1 Γ.1.2.1 dL_law_783 rfl (lv_at hl 0 rfl) ?_
                                                    refine lv_iload Γ.1.1 Γ.1.2.1 dL_law_784 (lv_at hl 4 rfl) ?_
                                                    refine lv_iconst (v := (2 : Int32)) Γ.1.1 Γ.1.2.1 dL_law_786 (by decide) ?_
                                                    refine lv_iadd Γ.1.1 Γ.1.2.1 dL_law_787 ?_
                                                    refine lv_topi (fun i_236 e_i_236 => ?_)
                                                    replace h := nm_at e_i_236 h; clear e_i_236
                                                    obtain ⟨hb_237, h⟩ := bnd_some h
                                                    refine va_sld Γ.1.1 Γ.1.2.1 hX hbl hbA hI.2 hb_237 dL_law_788 ?_
                                                    obtain ⟨σ_239, r_238, hr_238, h⟩ := ob2_some h
                                                    refine g_ci Γ hI (g_runV (As := [.int (xs i_234.toNatClampNeg), .int (xs i_236.toNatClampNeg)]) Γ hI (S_X12_join l X σ_233 (xs i_234.toNatClampNeg) (xs i_236.toNatClampNeg) σ_239 r_238 hr_238) mf_X12_join (recv_X12 Γ hI) gw_928 rfl rfl ⟨Nat.le_of_ble_eq_true rfl, Nat.le_of_ble_eq_true rfl⟩ rfl hl.1 rfl (Nat.le_of_ble_eq_true rfl) dL_law_789 ⟨by assumption, by assumption⟩) (fun H locs hI => ?_)
                                                    clear hr_238
                                                    refine lv_icmp_eq (tgt := 971) Γ.1.1 Γ.1.2.1 dL_law_792 (by decide) (fun c_240 => ?_) (fun c_240 => ?_)
                                                    · replace h := ite_pos c_240 h; clear c_240
                                                      obtain ⟨v4_241, e_v4_241, h⟩ := nm_some h
                                                      refine lv_iinc (v := v4_241) (lv' := [(4, .int v4_241), (0, .ref bS), (1, .ref (X.2.1 + 0)), (2, .ref (X.2.1 + 60)), (3, .ref (X.2.1 + 75))]) Γ.1.1 Γ.1.2.1 dL_law_971 hl (k := 4) rfl (by rw [e_v4_241]; rfl) (by decide) rfl (fun ls hl => ?_)
                                                      clear e_v4_241
                                                      refine lv_goto (tgt := 23) Γ.1.1 Γ.1.2.1 dL_law_974 (by decide) ?_
                                                      refine W.widen (k := cells + 1) (n := slots + 6) (by omega) (by omega) ?_
                                                      exact ih σ_239 v4_241 _ _ _ (cells + 1) (slots + 6) (by omega) (by omega) hI (lv_sub hl [1, 2, 3, 4, 0] rfl) h
                                                    · replace h := ite_neg c_240 h; clear c_240
                                                      refine lv_iconst (v := (0 : Int32)) Γ.1.1 Γ.1.2.1 dL_law_795 (by decide) ?_
                                                      exact absurd (Prod.mk.inj (Option.some.inj h)).2 (by decide)
                                                  · replace h := ite_neg c_40_22 h
                                                    by_cases c_40_23 : w_3 = (23 : Int32)
                                                    · replace h := ite_pos c_40_23 h
                                                      refine lv_tableIn (off := 757) (tgt := 797) Γ.1.1 Γ.1.2.1 dL_law_40 (by rw [c_40_23]; decide) (by rw [c_40_23]; decide) (by rw [c_40_23]; decide) (by decide) ?_
                                                      refine lv_aload_n Γ.1.1 Γ.1.2.1 dL_law_797 rfl (lv_at hl 1 rfl) ?_
                                                      refine lv_aload_n Γ.1.1 Γ.1.2.1 dL_law_798 rfl (lv_at hl 0 rfl) ?_
                                                      refine lv_iload Γ.1.1 Γ.1.2.1 dL_law_799 (lv_at hl 4 rfl) ?_
                                                      refine lv_iconst (v := (1 : Int32)) Γ.1.1 Γ.1.2.1 dL_law_801 (by decide) ?_
                                                      refine lv_iadd Γ.1.1 Γ.1.2.1 dL_law_802 ?_
                                                      refine lv_topi (fun i_242 e_i_242 => ?_)
                                                      replace h := nm_at e_i_242 h; clear e_i_242
                                                      obtain ⟨hb_243, h⟩ := bnd_some h
                                                      refine va_sld Γ.1.1 Γ.1.2.1 hX hbl hbA hI.2 hb_243 dL_law_803 ?_
                                                      refine lv_aload_n Γ.1.1 Γ.1.2.1 dL_law_804 rfl (lv_at hl 0 rfl) ?_
                                                      refine lv_iload Γ.1.1 Γ.1.2.1 dL_law_805 (lv_at hl 4 rfl) ?_
                                                      refine lv_iconst (v := (2 : Int32)) Γ.1.1 Γ.1.2.1 dL_law_807 (by decide) ?_
                                                      refine lv_iadd Γ.1.1 Γ.1.2.1 dL_law_808 ?_
                                                      refine lv_topi (fun i_244 e_i_244 => ?_)
                                                      replace h := nm_at e_i_244 h; clear e_i_244
                                                      obtain ⟨hb_245, h⟩ := bnd_some h
                                                      refine va_sld Γ.1.1 Γ.1.2.1 hX hbl hbA hI.2 hb_245 dL_law_809 ?_
                                                      obtain ⟨σ_247, r_246, hr_246, h⟩ := ob2_some h
                                                      refine g_ci Γ hI (g_runV (As := [.int (xs i_242.toNatClampNeg), .int (xs i_244.toNatClampNeg)]) Γ hI (S_X11_part l X σ (xs i_242.toNatClampNeg) (xs i_244.toNatClampNeg) σ_247 r_246 hr_246) mf_X11_part (recv_X11 Γ hI) gw_929 rfl rfl ⟨Nat.le_of_ble_eq_true rfl, Nat.le_of_ble_eq_true rfl⟩ rfl hl.1 rfl (Nat.le_of_ble_eq_true rfl) dL_law_810 ⟨by assumption, by assumption⟩) (fun H locs hI => ?_)
                                                      clear hr_246
                                                      refine lv_aload_n Γ.1.1 Γ.1.2.1 dL_law_813 rfl (lv_at hl 2 rfl) ?_
                                                      refine lv_aload_n Γ.1.1 Γ.1.2.1 dL_law_814 rfl (lv_at hl 0 rfl) ?_
                                                      refine lv_iload Γ.1.1 Γ.1.2.1 dL_law_815 (lv_at hl 4 rfl) ?_
                                                      refine lv_iconst (v := (1 : Int32)) Γ.1.1 Γ.1.2.1 dL_law_817 (by decide) ?_
                                                      refine lv_iadd Γ.1.1 Γ.1.2.1 dL_law_818 ?_
                                                      refine lv_topi (fun i_248 e_i_248 => ?_)
                                                      replace h := nm_at e_i_248 h; clear e_i_248
                                                      obtain ⟨hb_249, h⟩ := bnd_some h
                                                      refine va_sld Γ.1.1 Γ.1.2.1 hX hbl hbA hI.2 hb_249 dL_law_819 ?_
                                                      refine lv_aload_n Γ.1.1 Γ.1.2.1 dL_law_820 rfl (lv_at hl 0 rfl) ?_
                                                      refine lv_iload Γ.1.1 Γ.1.2.1 dL_law_821 (lv_at hl 4 rfl) ?_
                                                      refine lv_iconst (v := (2 : Int32)) Γ.1.1 Γ.1.2.1 dL_law_823 (by decide) ?_
                                                      refine lv_iadd Γ.1.1 Γ.1.2.1 dL_law_824 ?_
                                                      refine lv_topi (fun i_250 e_i_250 => ?_)
                                                      replace h := nm_at e_i_250 h; clear e_i_250
                                                      obtain ⟨hb_251, h⟩ := bnd_some h
                                                      refine va_sld Γ.1.1 Γ.1.2.1 hX hbl hbA hI.2 hb_251 dL_law_825 ?_
                                                      obtain ⟨σ_253, r_252, hr_252, h⟩ := ob2_some h
                                                      refine g_ci Γ hI (g_runV (As := [.int (xs i_248.toNatClampNeg), .int (xs i_250.toNatClampNeg)]) Γ hI (S_X12_part l X σ_247 (xs i_248.toNatClampNeg) (xs i_250.toNatClampNeg) σ_253 r_252 hr_252) mf_X12_part (recv_X12 Γ hI) gw_930 rfl rfl ⟨Nat.le_of_ble_eq_true rfl, Nat.le_of_ble_eq_true rfl⟩ rfl hl.1 rfl (Nat.le_of_ble_eq_true rfl) dL_law_826 ⟨by assumption, by assumption⟩) (fun H locs hI => ?_)
                                                      clear hr_252
                                                      refine lv_icmp_eq (tgt := 971) Γ.1.1 Γ.1.2.1 dL_law_829 (by decide) (fun c_254 => ?_) (fun c_254 => ?_)
                                                      · replace h := ite_pos c_254 h; clear c_254
                                                        obtain ⟨v4_255, e_v4_255, h⟩ := nm_some h
                                                        refine lv_iinc (v := v4_255) (lv' := [(4, .int v4_255), (0, .ref bS), (1, .ref (X.2.1 + 0)), (2, .ref (X.2.1 + 60)), (3, .ref (X.2.1 + 75))]) Γ.1.1 Γ.1.2.1 dL_law_971 hl (k := 4) rfl (by rw [e_v4_255]; rfl) (by decide) rfl (fun ls hl => ?_)
                                                        clear e_v4_255
                                                        refine lv_goto (tgt := 23) Γ.1.1 Γ.1.2.1 dL_law_974 (by decide) ?_
                                                        refine W.widen (k := cells + 1) (n := slots + 6) (by omega) (by omega) ?_
                                                        exact ih σ_253 v4_255 _ _ _ (cells + 1) (slots + 6) (by omega) (by omega) hI (lv_sub hl [1, 2, 3, 4, 0] rfl) h
                                                      · replace h := ite_neg c_254 h; clear c_254
                                                        refine lv_iconst (v := (0 : Int32)) Γ.1.1 Γ.1.2.1 dL_law_832 (by decide) ?_
                                                        exact absurd (Prod.mk.inj (Option.some.inj h)).2 (by decide)
                                                    · replace h := ite_neg c_40_23 h
                                                      by_cases c_40_24 : w_3 = (24 : Int32)
                                                      · replace h := ite_pos c_40_24 h
                                                        refine lv_tableIn (off := 794) (tgt := 834) Γ.1.1 Γ.1.2.1 dL_law_40 (by rw [c_40_24]; decide) (by rw [c_40_24]; decide) (by rw [c_40_24]; decide) (by decide) ?_
                                                        refine lv_aload_n Γ.1.1 Γ.1.2.1 dL_law_834 rfl (lv_at hl 1 rfl) ?_
                                                        refine lv_aload_n Γ.1.1 Γ.1.2.1 dL_law_835 rfl (lv_at hl 0 rfl) ?_
                                                        refine lv_iload Γ.1.1 Γ.1.2.1 dL_law_836 (lv_at hl 4 rfl) ?_
                                                        refine lv_iconst (v := (1 : Int32)) Γ.1.1 Γ.1.2.1 dL_law_838 (by decide) ?_
                                                        refine lv_iadd Γ.1.1 Γ.1.2.1 dL_law_839 ?_
                                                        refine lv_topi (fun i_256 e_i_256 => ?_)
                                                        replace h := nm_at e_i_256 h; clear e_i_256
                                                        obtain ⟨hb_257, h⟩ := bnd_some h
                                                        refine va_sld Γ.1.1 Γ.1.2.1 hX hbl hbA hI.2 hb_257 dL_law_840 ?_
                                                        refine lv_aload_n Γ.1.1 Γ.1.2.1 dL_law_841 rfl (lv_at hl 0 rfl) ?_
                                                        refine lv_iload Γ.1.1 Γ.1.2.1 dL_law_842 (lv_at hl 4 rfl) ?_
                                                        refine lv_iconst (v := (2 : Int32)) Γ.1.1 Γ.1.2.1 dL_law_844 (by decide) ?_
                                                        refine lv_iadd Γ.1.1 Γ.1.2.1 dL_law_845 ?_
                                                        refine lv_topi (fun i_258 e_i_258 => ?_)
                                                        replace h := nm_at e_i_258 h; clear e_i_258
                                                        obtain ⟨hb_259, h⟩ := bnd_some h
                                                        refine va_sld Γ.1.1 Γ.1.2.1 hX hbl hbA hI.2 hb_259 dL_law_846 ?_
                                                        obtain ⟨σ_261, r_260, hr_260, h⟩ := ob2_some h
                                                        refine g_ci Γ hI (g_runV (As := [.int (xs i_256.toNatClampNeg), .int (xs i_258.toNatClampNeg)]) Γ hI (S_X11_weigh l X σ (xs i_256.toNatClampNeg) (xs i_258.toNatClampNeg) σ_261 r_260 hr_260) mf_X11_weigh (recv_X11 Γ hI) gw_931 rfl rfl ⟨Nat.le_of_ble_eq_true rfl, Nat.le_of_ble_eq_true rfl⟩ rfl hl.1 rfl (Nat.le_of_ble_eq_true rfl) dL_law_847 ⟨by assumption, by assumption⟩) (fun H locs hI => ?_)
                                                        clear hr_260
                                                        refine lv_aload_n Γ.1.1 Γ.1.2.1 dL_law_850 rfl (lv_at hl 2 rfl) ?_
                                                        refine lv_aload_n Γ.1.1 Γ.1.2.1 dL_law_851 rfl (lv_at hl 0 rfl) ?_
                                                        refine lv_iload Γ.1.1 Γ.1.2.1 dL_law_852 (lv_at hl 4 rfl) ?_
                                                        refine lv_iconst (v := (1 : Int32)) Γ.1.1 Γ.1.2.1 dL_law_854 (by decide) ?_
                                                        refine lv_iadd Γ.1.1 Γ.1.2.1 dL_law_855 ?_
                                                        refine lv_topi (fun i_262 e_i_262 => ?_)
                                                        replace h := nm_at e_i_262 h; clear e_i_262
                                                        obtain ⟨hb_263, h⟩ := bnd_some h
                                                        refine va_sld Γ.1.1 Γ.1.2.1 hX hbl hbA hI.2 hb_263 dL_law_856 ?_
                                                        refine lv_aload_n Γ.1.1 Γ.1.2.1 dL_law_857 rfl (lv_at hl 0 rfl) ?_
                                                        refine lv_iload Γ.1.1 Γ.1.2.1 dL_law_858 (lv_at hl 4 rfl) ?_
                                                        refine lv_iconst (v := (2 : Int32)) Γ.1.1 Γ.1.2.1 dL_law_860 (by decide) ?_
                                                        refine lv_iadd Γ.1.1 Γ.1.2.1 dL_law_861 ?_
                                                        refine lv_topi (fun i_264 e_i_264 => ?_)
                                                        replace h := nm_at e_i_264 h; clear e_i_264
                                                        obtain ⟨hb_265, h⟩ := bnd_some h
                                                        refine va_sld Γ.1.1 Γ.1.2.1 hX hbl hbA hI.2 hb_265 dL_law_862 ?_
                                                        obtain ⟨σ_267, r_266, hr_266, h⟩ := ob2_some h
                                                        refine g_ci Γ hI (g_runV (As := [.int (xs i_262.toNatClampNeg), .int (xs i_264.toNatClampNeg)]) Γ hI (S_X12_weigh l X σ_261 (xs i_262.toNatClampNeg) (xs i_264.toNatClampNeg) σ_267 r_266 hr_266) mf_X12_weigh (recv_X12 Γ hI) gw_932 rfl rfl ⟨Nat.le_of_ble_eq_true rfl, Nat.le_of_ble_eq_true rfl⟩ rfl hl.1 rfl (Nat.le_of_ble_eq_true rfl) dL_law_863 ⟨by assumption, by assumption⟩) (fun H locs hI => ?_)
                                                        clear hr_266
                                                        refine lv_icmp_eq (tgt := 971) Γ.1.1 Γ.1.2.1 dL_law_866 (by decide) (fun c_268 => ?_) (fun c_268 => ?_)
                                                        · replace h := ite_pos c_268 h; clear c_268
                                                          obtain ⟨v4_269, e_v4_269, h⟩ := nm_some h
                                                          refine lv_iinc (v := v4_269) (lv' := [(4, .int v4_269), (0, .ref bS), (1, .ref (X.2.1 + 0)), (2, .ref (X.2.1 + 60)), (3, .ref (X.2.1 + 75))]) Γ.1.1 Γ.1.2.1 dL_law_971 hl (k := 4) rfl (by rw [e_v4_269]; rfl) (by decide) rfl (fun ls hl => ?_)
                                                          clear e_v4_269
                                                          refine lv_goto (tgt := 23) Γ.1.1 Γ.1.2.1 dL_law_974 (by decide) ?_
                                                          refine W.widen (k := cells + 1) (n := slots + 6) (by omega) (by omega) ?_
                                                          exact ih σ_267 v4_269 _ _ _ (cells + 1) (slots + 6) (by omega) (by omega) hI (lv_sub hl [1, 2, 3, 4, 0] rfl) h
                                                        · replace h := ite_neg c_268 h; clear c_268
                                                          refine lv_iconst (v := (0 : Int32)) Γ.1.1 Γ.1.2.1 dL_law_869 (by decide) ?_
                                                          exact absurd (Prod.mk.inj (Option.some.inj h)).2 (by decide)
                                                      · replace h := ite_neg c_40_24 h
                                                        by_cases c_40_25 : w_3 = (25 : Int32)
                                                        · replace h := ite_pos c_40_25 h
                                                          refine lv_tableIn (off := 831) (tgt := 871) Γ.1.1 Γ.1.2.1 dL_law_40 (by rw [c_40_25]; decide) (by rw [c_40_25]; decide) (by rw [c_40_25]; decide) (by decide) ?_
                                                          refine lv_aload_n Γ.1.1 Γ.1.2.1 dL_law_871 rfl (lv_at hl 1 rfl) ?_
                                                          refine lv_aload_n Γ.1.1 Γ.1.2.1 dL_law_872 rfl (lv_at hl 0 rfl) ?_
                                                          refine lv_iload Γ.1.1 Γ.1.2.1 dL_law_873 (lv_at hl 4 rfl) ?_
                                                          refine lv_iconst (v := (1 : Int32)) Γ.1.1 Γ.1.2.1 dL_law_875 (by decide) ?_
                                                          refine lv_iadd Γ.1.1 Γ.1.2.1 dL_law_876 ?_
                                                          refine lv_topi (fun i_270 e_i_270 => ?_)
                                                          replace h := nm_at e_i_270 h; clear e_i_270
                                                          obtain ⟨hb_271, h⟩ := bnd_some h
                                                          refine va_sld Γ.1.1 Γ.1.2.1 hX hbl hbA hI.2 hb_271 dL_law_877 ?_
                                                          refine lv_aload_n Γ.1.1 Γ.1.2.1 dL_law_878 rfl (lv_at hl 0 rfl) ?_
                                                          refine lv_iload Γ.1.1 Γ.1.2.1 dL_law_879 (lv_at hl 4 rfl) ?_
                                                          refine lv_iconst (v := (2 : Int32)) Γ.1.1 Γ.1.2.1 dL_law_881 (by decide) ?_
                                                          refine lv_iadd Γ.1.1 Γ.1.2.1 dL_law_882 ?_
                                                          refine lv_topi (fun i_272 e_i_272 => ?_)
                                                          replace h := nm_at e_i_272 h; clear e_i_272
                                                          obtain ⟨hb_273, h⟩ := bnd_some h
                                                          refine va_sld Γ.1.1 Γ.1.2.1 hX hbl hbA hI.2 hb_273 dL_law_883 ?_
                                                          obtain ⟨σ_275, r_274, hr_274, h⟩ := ob2_some h
                                                          refine g_ci Γ hI (g_runV (As := [.int (xs i_270.toNatClampNeg), .int (xs i_272.toNatClampNeg)]) Γ hI (S_X11_drawn l X σ (xs i_270.toNatClampNeg) (xs i_272.toNatClampNeg) σ_275 r_274 hr_274) mf_X11_drawn (recv_X11 Γ hI) gw_933 rfl rfl ⟨Nat.le_of_ble_eq_true rfl, Nat.le_of_ble_eq_true rfl⟩ rfl hl.1 rfl (Nat.le_of_ble_eq_true rfl) dL_law_884 ⟨by assumption, by assumption⟩) (fun H locs hI => ?_)
                                                          clear hr_274
                                                          refine lv_aload_n Γ.1.1 Γ.1.2.1 dL_law_887 rfl (lv_at hl 2 rfl) ?_
                                                          refine lv_aload_n Γ.1.1 Γ.1.2.1 dL_law_888 rfl (lv_at hl 0 rfl) ?_
                                                          refine lv_iload Γ.1.1 Γ.1.2.1 dL_law_889 (lv_at hl 4 rfl) ?_
                                                          refine lv_iconst (v := (1 : Int32)) Γ.1.1 Γ.1.2.1 dL_law_891 (by decide) ?_
                                                          refine lv_iadd Γ.1.1 Γ.1.2.1 dL_law_892 ?_
                                                          refine lv_topi (fun i_276 e_i_276 => ?_)
                                                          replace h := nm_at e_i_276 h; clear e_i_276
                                                          obtain ⟨hb_277, h⟩ := bnd_some h
                                                          refine va_sld Γ.1.1 Γ.1.2.1 hX hbl hbA hI.2 hb_277 dL_law_893 ?_
                                                          refine lv_aload_n Γ.1.1 Γ.1.2.1 dL_law_894 rfl (lv_at hl 0 rfl) ?_
                                                          refine lv_iload Γ.1.1 Γ.1.2.1 dL_law_895 (lv_at hl 4 rfl) ?_
                                                          refine lv_iconst (v := (2 : Int32)) Γ.1.1 Γ.1.2.1 dL_law_897 (by decide) ?_
                                                          refine lv_iadd Γ.1.1 Γ.1.2.1 dL_law_898 ?_
                                                          refine lv_topi (fun i_278 e_i_278 => ?_)
                                                          replace h := nm_at e_i_278 h; clear e_i_278
                                                          obtain ⟨hb_279, h⟩ := bnd_some h
                                                          refine va_sld Γ.1.1 Γ.1.2.1 hX hbl hbA hI.2 hb_279 dL_law_899 ?_
                                                          obtain ⟨σ_281, r_280, hr_280, h⟩ := ob2_some h
                                                          refine g_ci Γ hI (g_runV (As := [.int (xs i_276.toNatClampNeg), .int (xs i_278.toNatClampNeg)]) Γ hI (S_X12_drawn l X σ_275 (xs i_276.toNatClampNeg) (xs i_278.toNatClampNeg) σ_281 r_280 hr_280) mf_X12_drawn (recv_X12 Γ hI) gw_934 rfl rfl ⟨Nat.le_of_ble_eq_true rfl, Nat.le_of_ble_eq_true rfl⟩ rfl hl.1 rfl (Nat.le_of_ble_eq_true rfl) dL_law_900 ⟨by assumption, by assumption⟩) (fun H locs hI => ?_)
                                                          clear hr_280
                                                          refine lv_icmp_eq (tgt := 971) Γ.1.1 Γ.1.2.1 dL_law_903 (by decide) (fun c_282 => ?_) (fun c_282 => ?_)
                                                          · replace h := ite_pos c_282 h; clear c_282
                                                            obtain ⟨v4_283, e_v4_283, h⟩ := nm_some h
                                                            refine lv_iinc (v := v4_283) (lv' := [(4, .int v4_283), (0, .ref bS), (1, .ref (X.2.1 + 0)), (2, .ref (X.2.1 + 60)), (3, .ref (X.2.1 + 75))]) Γ.1.1 Γ.1.2.1 dL_law_971 hl (k := 4) rfl (by rw [e_v4_283]; rfl) (by decide) rfl (fun ls hl => ?_)
                                                            clear e_v4_283
                                                            refine lv_goto (tgt := 23) Γ.1.1 Γ.1.2.1 dL_law_974 (by decide) ?_
                                                            refine W.widen (k := cells + 1) (n := slots + 6) (by omega) (by omega) ?_
                                                            exact ih σ_281 v4_283 _ _ _ (cells + 1) (slots + 6) (by omega) (by omega) hI (lv_sub hl [1, 2, 3, 4, 0] rfl) h
                                                          · replace h := ite_neg c_282 h; clear c_282
                                                            refine lv_iconst (v := (0 : Int32)) Γ.1.1 Γ.1.2.1 dL_law_906 (by decide) ?_
                                                            exact absurd (Prod.mk.inj (Option.some.inj h)).2 (by decide)
                                                        · replace h := ite_neg c_40_25 h
                                                          by_cases c_40_26 : w_3 = (26 : Int32)
                                                          · replace h := ite_pos c_40_26 h
                                                            refine lv_tableIn (off := 868) (tgt := 908) Γ.1.1 Γ.1.2.1 dL_law_40 (by rw [c_40_26]; decide) (by rw [c_40_26]; decide) (by rw [c_40_26]; decide) (by decide) ?_
                                                            refine lv_aload_n Γ.1.1 Γ.1.2.1 dL_law_908 rfl (lv_at hl 1 rfl) ?_
                                                            obtain ⟨σ_285, r_284, hr_284, h⟩ := ob2_some h
                                                            refine g_ci Γ hI (g_runV (As := []) Γ hI (S_X11_undo l X σ σ_285 r_284 hr_284) mf_X11_undo (recv_X11 Γ hI) gw_935 rfl rfl ⟨Nat.le_of_ble_eq_true rfl, Nat.le_of_ble_eq_true rfl⟩ rfl hl.1 rfl (Nat.le_of_ble_eq_true rfl) dL_law_909 ⟨by assumption, by assumption⟩) (fun H locs hI => ?_)
                                                            clear hr_284
                                                            refine lv_aload_n Γ.1.1 Γ.1.2.1 dL_law_912 rfl (lv_at hl 2 rfl) ?_
                                                            obtain ⟨σ_287, r_286, hr_286, h⟩ := ob2_some h
                                                            refine g_ci Γ hI (g_runV (As := []) Γ hI (S_X12_undo l X σ_285 σ_287 r_286 hr_286) mf_X12_undo (recv_X12 Γ hI) gw_936 rfl rfl ⟨Nat.le_of_ble_eq_true rfl, Nat.le_of_ble_eq_true rfl⟩ rfl hl.1 rfl (Nat.le_of_ble_eq_true rfl) dL_law_913 ⟨by assumption, by assumption⟩) (fun H locs hI => ?_)
                                                            clear hr_286
                                                            refine lv_icmp_eq (tgt := 971) Γ.1.1 Γ.1.2.1 dL_law_916 (by decide) (fun c_288 => ?_) (fun c_288 => ?_)
                                                            · replace h := ite_pos c_288 h; clear c_288
                                                              obtain ⟨v4_289, e_v4_289, h⟩ := nm_some h
                                                              refine lv_iinc (v := v4_289) (lv' := [(4, .int v4_289), (0, .ref bS), (1, .ref (X.2.1 + 0)), (2, .ref (X.2.1 + 60)), (3, .ref (X.2.1 + 75))]) Γ.1.1 Γ.1.2.1 dL_law_971 hl (k := 4) rfl (by rw [e_v4_289]; rfl) (by decide) rfl (fun ls hl => ?_)
                                                              clear e_v4_289
                                                              refine lv_goto (tgt := 23) Γ.1.1 Γ.1.2.1 dL_law_974 (by decide) ?_
                                                              refine W.widen (k := cells + 1) (n := slots + 6) (by omega) (by omega) ?_
                                                              exact ih σ_287 v4_289 _ _ _ (cells + 1) (slots + 6) (by omega) (by omega) hI (lv_sub hl [1, 2, 3, 4, 0] rfl) h
                                                            · replace h := ite_neg c_288 h; clear c_288
                                                              refine lv_iconst (v := (0 : Int32)) Γ.1.1 Γ.1.2.1 dL_law_919 (by decide) ?_
                                                              exact absurd (Prod.mk.inj (Option.some.inj h)).2 (by decide)
                                                          · replace h := ite_neg c_40_26 h
                                                            by_cases c_40_27 : w_3 = (27 : Int32)
                                                            · replace h := ite_pos c_40_27 h
                                                              refine lv_tableIn (off := 881) (tgt := 921) Γ.1.1 Γ.1.2.1 dL_law_40 (by rw [c_40_27]; decide) (by rw [c_40_27]; decide) (by rw [c_40_27]; decide) (by decide) ?_
                                                              refine lv_aload_n Γ.1.1 Γ.1.2.1 dL_law_921 rfl (lv_at hl 1 rfl) ?_
                                                              refine lv_aload_n Γ.1.1 Γ.1.2.1 dL_law_922 rfl (lv_at hl 0 rfl) ?_
                                                              refine lv_iload Γ.1.1 Γ.1.2.1 dL_law_923 (lv_at hl 4 rfl) ?_
                                                              refine lv_iconst (v := (1 : Int32)) Γ.1.1 Γ.1.2.1 dL_law_925 (by decide) ?_
                                                              refine lv_iadd Γ.1.1 Γ.1.2.1 dL_law_926 ?_
                                                              refine lv_topi (fun i_290 e_i_290 => ?_)
                                                              replace h := nm_at e_i_290 h; clear e_i_290
                                                              obtain ⟨hb_291, h⟩ := bnd_some h
                                                              refine va_sld Γ.1.1 Γ.1.2.1 hX hbl hbA hI.2 hb_291 dL_law_927 ?_
                                                              obtain ⟨σ_293, r_292, hr_292, h⟩ := ob2_some h
                                                              refine g_ci Γ hI (g_runV (As := [.int (xs i_290.toNatClampNeg)]) Γ hI (S_X11_image l X σ (xs i_290.toNatClampNeg) σ_293 r_292 hr_292) mf_X11_image (recv_X11 Γ hI) gw_937 rfl rfl ⟨Nat.le_of_ble_eq_true rfl, Nat.le_of_ble_eq_true rfl⟩ rfl hl.1 rfl (Nat.le_of_ble_eq_true rfl) dL_law_928 ⟨by assumption, by assumption⟩) (fun H locs hI => ?_)
                                                              clear hr_292
                                                              refine lv_aload_n Γ.1.1 Γ.1.2.1 dL_law_931 rfl (lv_at hl 2 rfl) ?_
                                                              refine lv_aload_n Γ.1.1 Γ.1.2.1 dL_law_932 rfl (lv_at hl 0 rfl) ?_
                                                              refine lv_iload Γ.1.1 Γ.1.2.1 dL_law_933 (lv_at hl 4 rfl) ?_
                                                              refine lv_iconst (v := (1 : Int32)) Γ.1.1 Γ.1.2.1 dL_law_935 (by decide) ?_
                                                              refine lv_iadd Γ.1.1 Γ.1.2.1 dL_law_936 ?_
                                                              refine lv_topi (fun i_294 e_i_294 => ?_)
                                                              replace h := nm_at e_i_294 h; clear e_i_294
                                                              obtain ⟨hb_295, h⟩ := bnd_some h
                                                              refine va_sld Γ.1.1 Γ.1.2.1 hX hbl hbA hI.2 hb_295 dL_law_937 ?_
                                                              obtain ⟨σ_297, r_296, hr_296, h⟩ := ob2_some h
                                                              refine g_ci Γ hI (g_runV (As := [.int (xs i_294.toNatClampNeg)]) Γ hI (S_X12_image l X σ_293 (xs i_294.toNatClampNeg) σ_297 r_296 hr_296) mf_X12_image (recv_X12 Γ hI) gw_938 rfl rfl ⟨Nat.le_of_ble_eq_true rfl, Nat.le_of_ble_eq_true rfl⟩ rfl hl.1 rfl (Nat.le_of_ble_eq_true rfl) dL_law_938 ⟨by assumption, by assumption⟩) (fun H locs hI => ?_)
                                                              clear hr_296
                                                              refine lv_icmp_eq (tgt := 971) Γ.1.1 Γ.1.2.1 dL_law_941 (by decide) (fun c_298 => ?_) (fun c_298 => ?_)
                                                              · replace h := ite_pos c_298 h; clear c_298
                                                                obtain ⟨v4_299, e_v4_299, h⟩ := nm_some h
                                                                refine lv_iinc (v := v4_299) (lv' := [(4, .int v4_299), (0, .ref bS), (1, .ref (X.2.1 + 0)), (2, .ref (X.2.1 + 60)), (3, .ref (X.2.1 + 75))]) Γ.1.1 Γ.1.2.1 dL_law_971 hl (k := 4) rfl (by rw [e_v4_299]; rfl) (by decide) rfl (fun ls hl => ?_)
                                                                clear e_v4_299
                                                                refine lv_goto (tgt := 23) Γ.1.1 Γ.1.2.1 dL_law_974 (by decide) ?_
                                                                refine W.widen (k := cells + 1) (n := slots + 6) (by omega) (by omega) ?_
                                                                exact ih σ_297 v4_299 _ _ _ (cells + 1) (slots + 6) (by omega) (by omega) hI (lv_sub hl [1, 2, 3, 4, 0] rfl) h
                                                              · replace h := ite_neg c_298 h; clear c_298
                                                                refine lv_iconst (v := (0 : Int32)) Γ.1.1 Γ.1.2.1 dL_law_944 (by decide) ?_
                                                                exact absurd (Prod.mk.inj (Option.some.inj h)).2 (by decide)
                                                            · replace h := ite_neg c_40_27 h
                                                              by_cases c_40_28 : w_3 = (28 : Int32)
                                                              · replace h := ite_pos c_40_28 h
                                                                refine lv_tableIn (off := 906) (tgt := 946) Γ.1.1 Γ.1.2.1 dL_law_40 (by rw [c_40_28]; decide) (by rw [c_40_28]; decide) (by rw [c_40_28]; decide) (by decide) ?_
                                                                refine lv_aload_n Γ.1.1 Γ.1.2.1 dL_law_946 rfl (lv_at hl 1 rfl) ?_
                                                                refine lv_aload_n Γ.1.1 Γ.1.2.1 dL_law_947 rfl (lv_at hl 0 rfl) ?_
                                                                refine lv_iload Γ.1.1 Γ.1.2.1 dL_law_948 (lv_at hl 4 rfl) ?_
                                                                refine lv_iconst (v := (1 : Int32)) Γ.1.1 Γ.1.2.1 dL_law_950 (by decide) ?_
                                                                refine lv_iadd Γ.1.1 Γ.1.2.1 dL_law_951 ?_
                                                                refine lv_topi (fun i_300 e_i_300 => ?_)
                                                                replace h := nm_at e_i_300 h; clear e_i_300
                                                                obtain ⟨hb_301, h⟩ := bnd_some h
                                                                refine va_sld Γ.1.1 Γ.1.2.1 hX hbl hbA hI.2 hb_301 dL_law_952 ?_
                                                                obtain ⟨σ_303, r_302, hr_302, h⟩ := ob2_some h
                                                                refine g_ci Γ hI (g_runV (As := [.int (xs i_300.toNatClampNeg)]) Γ hI (S_X11_restore l X σ (xs i_300.toNatClampNeg) σ_303 r_302 hr_302) mf_X11_restore (recv_X11 Γ hI) gw_939 rfl rfl ⟨Nat.le_of_ble_eq_true rfl, Nat.le_of_ble_eq_true rfl⟩ rfl hl.1 rfl (Nat.le_of_ble_eq_true rfl) dL_law_953 ⟨by assumption, by assumption⟩) (fun H locs hI => ?_)
                                                                clear hr_302
                                                                refine lv_aload_n Γ.1.1 Γ.1.2.1 dL_law_956 rfl (lv_at hl 2 rfl) ?_
                                                                refine lv_aload_n Γ.1.1 Γ.1.2.1 dL_law_957 rfl (lv_at hl 0 rfl) ?_
                                                                refine lv_iload Γ.1.1 Γ.1.2.1 dL_law_958 (lv_at hl 4 rfl) ?_
                                                                refine lv_iconst (v := (1 : Int32)) Γ.1.1 Γ.1.2.1 dL_law_960 (by decide) ?_
                                                                refine lv_iadd Γ.1.1 Γ.1.2.1 dL_law_961 ?_
                                                                refine lv_topi (fun i_304 e_i_304 => ?_)
                                                                replace h := nm_at e_i_304 h; clear e_i_304
                                                                obtain ⟨hb_305, h⟩ := bnd_some h
                                                                refine va_sld Γ.1.1 Γ.1.2.1 hX hbl hbA hI.2 hb_305 dL_law_962 ?_
                                                                obtain ⟨σ_307, r_306, hr_306, h⟩ := ob2_some h
                                                                refine g_ci Γ hI (g_runV (As := [.int (xs i_304.toNatClampNeg)]) Γ hI (S_X12_restore l X σ_303 (xs i_304.toNatClampNeg) σ_307 r_306 hr_306) mf_X12_restore (recv_X12 Γ hI) gw_940 rfl rfl ⟨Nat.le_of_ble_eq_true rfl, Nat.le_of_ble_eq_true rfl⟩ rfl hl.1 rfl (Nat.le_of_ble_eq_true rfl) dL_law_963 ⟨by assumption, by assumption⟩) (fun H locs hI => ?_)
                                                                clear hr_306
                                                                refine lv_icmp_eq (tgt := 971) Γ.1.1 Γ.1.2.1 dL_law_966 (by decide) (fun c_308 => ?_) (fun c_308 => ?_)
                                                                · replace h := ite_pos c_308 h; clear c_308
                                                                  obtain ⟨v4_309, e_v4_309, h⟩ := nm_some h
                                                                  refine lv_iinc (v := v4_309) (lv' := [(4, .int v4_309), (0, .ref bS), (1, .ref (X.2.1 + 0)), (2, .ref (X.2.1 + 60)), (3, .ref (X.2.1 + 75))]) Γ.1.1 Γ.1.2.1 dL_law_971 hl (k := 4) rfl (by rw [e_v4_309]; rfl) (by decide) rfl (fun ls hl => ?_)
                                                                  clear e_v4_309
                                                                  refine lv_goto (tgt := 23) Γ.1.1 Γ.1.2.1 dL_law_974 (by decide) ?_
                                                                  refine W.widen (k := cells + 1) (n := slots + 6) (by omega) (by omega) ?_
                                                                  exact ih σ_307 v4_309 _ _ _ (cells + 1) (slots + 6) (by omega) (by omega) hI (lv_sub hl [1, 2, 3, 4, 0] rfl) h
                                                                · replace h := ite_neg c_308 h; clear c_308
                                                                  refine lv_iconst (v := (0 : Int32)) Γ.1.1 Γ.1.2.1 dL_law_969 (by decide) ?_
                                                                  exact absurd (Prod.mk.inj (Option.some.inj h)).2 (by decide)
                                                              · replace h := ite_neg c_40_28 h
                                                                have hq0 : ¬ w_3.toInt = 0 := lv_neT c_40_0 (by decide)
                                                                have hq1 : ¬ w_3.toInt = 1 := lv_neT c_40_1 (by decide)
                                                                have hq2 : ¬ w_3.toInt = 2 := lv_neT c_40_2 (by decide)
                                                                have hq3 : ¬ w_3.toInt = 3 := lv_neT c_40_3 (by decide)
                                                                have hq4 : ¬ w_3.toInt = 4 := lv_neT c_40_4 (by decide)
                                                                have hq5 : ¬ w_3.toInt = 5 := lv_neT c_40_5 (by decide)
                                                                have hq6 : ¬ w_3.toInt = 6 := lv_neT c_40_6 (by decide)
                                                                have hq7 : ¬ w_3.toInt = 7 := lv_neT c_40_7 (by decide)
                                                                have hq8 : ¬ w_3.toInt = 8 := lv_neT c_40_8 (by decide)
                                                                have hq9 : ¬ w_3.toInt = 9 := lv_neT c_40_9 (by decide)
                                                                have hq10 : ¬ w_3.toInt = 10 := lv_neT c_40_10 (by decide)
                                                                have hq11 : ¬ w_3.toInt = 11 := lv_neT c_40_11 (by decide)
                                                                have hq12 : ¬ w_3.toInt = 12 := lv_neT c_40_12 (by decide)
                                                                have hq13 : ¬ w_3.toInt = 13 := lv_neT c_40_13 (by decide)
                                                                have hq14 : ¬ w_3.toInt = 14 := lv_neT c_40_14 (by decide)
                                                                have hq15 : ¬ w_3.toInt = 15 := lv_neT c_40_15 (by decide)
                                                                have hq16 : ¬ w_3.toInt = 16 := lv_neT c_40_16 (by decide)
                                                                have hq17 : ¬ w_3.toInt = 17 := lv_neT c_40_17 (by decide)
                                                                have hq18 : ¬ w_3.toInt = 18 := lv_neT c_40_18 (by decide)
                                                                have hq19 : ¬ w_3.toInt = 19 := lv_neT c_40_19 (by decide)
                                                                have hq20 : ¬ w_3.toInt = 20 := lv_neT c_40_20 (by decide)
                                                                have hq21 : ¬ w_3.toInt = 21 := lv_neT c_40_21 (by decide)
                                                                have hq22 : ¬ w_3.toInt = 22 := lv_neT c_40_22 (by decide)
                                                                have hq23 : ¬ w_3.toInt = 23 := lv_neT c_40_23 (by decide)
                                                                have hq24 : ¬ w_3.toInt = 24 := lv_neT c_40_24 (by decide)
                                                                have hq25 : ¬ w_3.toInt = 25 := lv_neT c_40_25 (by decide)
                                                                have hq26 : ¬ w_3.toInt = 26 := lv_neT c_40_26 (by decide)
                                                                have hq27 : ¬ w_3.toInt = 27 := lv_neT c_40_27 (by decide)
                                                                have hq28 : ¬ w_3.toInt = 28 := lv_neT c_40_28 (by decide)
                                                                refine lv_tableOut (tgt := 971) Γ.1.1 Γ.1.2.1 dL_law_40 (by omega) (by decide) ?_
                                                                clear hq0 hq1 hq2 hq3 hq4 hq5 hq6 hq7 hq8 hq9 hq10 hq11 hq12 hq13 hq14 hq15 hq16 hq17 hq18 hq19 hq20 hq21 hq22 hq23 hq24 hq25 hq26 hq27 hq28
                                                                obtain ⟨v4_310, e_v4_310, h⟩ := nm_some h
                                                                refine lv_iinc (v := v4_310) (lv' := [(4, .int v4_310), (0, .ref bS), (1, .ref (X.2.1 + 0)), (2, .ref (X.2.1 + 60)), (3, .ref (X.2.1 + 75))]) Γ.1.1 Γ.1.2.1 dL_law_971 hl (k := 4) rfl (by rw [e_v4_310]; rfl) (by decide) rfl (fun ls hl => ?_)
                                                                clear e_v4_310
                                                                refine lv_goto (tgt := 23) Γ.1.1 Γ.1.2.1 dL_law_974 (by decide) ?_
                                                                refine W.widen (k := cells + 1) (n := slots + 6) (by omega) (by omega) ?_
                                                                exact ih σ v4_310 _ _ _ (cells + 1) (slots + 6) (by omega) (by omega) hI (lv_sub hl [1, 2, 3, 4, 0] rfl) h
