/-! THE CONSTRUCTORS (by genc.py) -/
theorem gx_0 : Cond.methodLink RX10 1 objectInit ∈ GW := gw_t1 33 rfl rfl
theorem gx_1 : Cond.instanceMethod objectInit ∈ GW := gw_t1 26 rfl rfl
theorem gx_2 : Cond.code objectInit ⟨#[0xb1]⟩ 1 none ∈ GW := gw_t1 27 rfl rfl
theorem gx_3 : Cond.arrayClass .int ∈ GW := gw_t1 43 rfl rfl
theorem gx_4 : Cond.fieldLink RX10 9 "RingCutters$Tape" "bytes" "[I" ∈ GW := gw_t1 34 rfl rfl
theorem gx_5 : Cond.code yX10_init cX10_init 1 none ∈ GW := gw_t1 32 rfl rfl
theorem gx_6 : Cond.instanceMethod yX10_init ∈ GW := gw_t1 31 rfl rfl
theorem gx_7 : Cond.initialized RX10 ∈ GW := gw_t1 2 rfl rfl
theorem gx_8 : Cond.methodLink RX3 3 objectInit ∈ GW := gw_t1 55 rfl rfl
theorem gx_9 : Cond.fieldLink RX3 9 "RingCutters$Net" "weights" "[I" ∈ GW := gw_t1 56 rfl rfl
theorem gx_10 : Cond.fieldLink RX3 15 "RingCutters$Net" "between" "[I" ∈ GW := gw_t1 57 rfl rfl
theorem gx_11 : Cond.code yX3_init cX3_init 1 none ∈ GW := gw_t1 54 rfl rfl
theorem gx_12 : Cond.instanceMethod yX3_init ∈ GW := gw_t1 53 rfl rfl
theorem gx_13 : Cond.initialized RX3 ∈ GW := gw_t1 4 rfl rfl
theorem gx_14 : Cond.methodLink RX6 5 objectInit ∈ GW := gw_t1 49 rfl rfl
theorem gx_15 : Cond.classLink RX6 11 RX3 ∈ GW := gw_t1 50 rfl rfl
theorem gx_16 : Cond.instantiable RX3 6 ∈ GW := gw_t1 51 rfl rfl
theorem gx_17 : Cond.fieldLink RX6 14 "RingCutters$Reader" "found" "LRingCutters$Net;" ∈ GW := gw_t1 86 rfl rfl
theorem gx_18 : Cond.arrayClass .long ∈ GW := gw_t1 117 rfl rfl
theorem gx_19 : Cond.fieldLink RX6 18 "RingCutters$Reader" "names" "[J" ∈ GW := gw_t1 88 rfl rfl
theorem gx_20 : Cond.code yX6_init cX6_init 1 none ∈ GW := gw_t1 48 rfl rfl
theorem gx_21 : Cond.instanceMethod yX6_init ∈ GW := gw_t1 47 rfl rfl
theorem gx_22 : Cond.initialized RX6 ∈ GW := gw_t1 3 rfl rfl
theorem gx_23 : Cond.methodLink RX5 3 objectInit ∈ GW := gw_t1 125 rfl rfl
theorem gx_24 : Cond.classLink RX5 9 RX3 ∈ GW := gw_t1 126 rfl rfl
theorem gx_25 : Cond.fieldLink RX5 11 "RingCutters$Past" "places" "[LRingCutters$Net;" ∈ GW := gw_t1 129 rfl rfl
theorem gx_26 : Cond.code yX5_init cX5_init 2 none ∈ GW := gw_t1 124 rfl rfl
theorem gx_27 : Cond.instanceMethod yX5_init ∈ GW := gw_t1 123 rfl rfl
theorem gx_28 : Cond.initialized RX5 ∈ GW := gw_t1 5 rfl rfl
theorem gx_29 : Cond.methodLink RX2 1 objectInit ∈ GW := gw_t1 145 rfl rfl
theorem gx_30 : Cond.classLink RX2 7 RX3 ∈ GW := gw_t1 146 rfl rfl
theorem gx_31 : Cond.fieldLink RX2 10 "RingCutters$Kept" "copy" "LRingCutters$Net;" ∈ GW := gw_t1 148 rfl rfl
theorem gx_32 : Cond.code yX2_init cX2_init 1 none ∈ GW := gw_t1 144 rfl rfl
theorem gx_33 : Cond.instanceMethod yX2_init ∈ GW := gw_t1 143 rfl rfl
theorem gx_34 : Cond.initialized RX2 ∈ GW := gw_t1 6 rfl rfl
theorem gx_35 : Cond.methodLink RX1 1 objectInit ∈ GW := gw_t1 161 rfl rfl
theorem gx_36 : Cond.code yX1_init cX1_init 1 none ∈ GW := gw_t1 160 rfl rfl
theorem gx_37 : Cond.instanceMethod yX1_init ∈ GW := gw_t1 159 rfl rfl
theorem gx_38 : Cond.initialized RX1 ∈ GW := gw_t1 7 rfl rfl
theorem gx_39 : Cond.methodLink RX8 3 objectInit ∈ GW := gw_t1 172 rfl rfl
theorem gx_40 : Cond.arrayClass .boolean ∈ GW := gw_t1 194 rfl rfl
theorem gx_41 : Cond.fieldLink RX8 9 "RingCutters$Rings" "free" "[Z" ∈ GW := gw_t1 173 rfl rfl
theorem gx_42 : Cond.fieldLink RX8 15 "RingCutters$Rings" "beside" "[I" ∈ GW := gw_t1 174 rfl rfl
theorem gx_43 : Cond.fieldLink RX8 19 "RingCutters$Rings" "doubled" "[I" ∈ GW := gw_t1 175 rfl rfl
theorem gx_44 : Cond.fieldLink RX8 22 "RingCutters$Rings" "ringSets" "[I" ∈ GW := gw_t1 176 rfl rfl
theorem gx_45 : Cond.fieldLink RX8 25 "RingCutters$Rings" "starts" "[I" ∈ GW := gw_t1 177 rfl rfl
theorem gx_46 : Cond.code yX8_init cX8_init 1 none ∈ GW := gw_t1 171 rfl rfl
theorem gx_47 : Cond.instanceMethod yX8_init ∈ GW := gw_t1 170 rfl rfl
theorem gx_48 : Cond.initialized RX8 ∈ GW := gw_t1 8 rfl rfl
theorem gx_49 : Cond.methodLink RX4 3 objectInit ∈ GW := gw_t1 200 rfl rfl
theorem gx_50 : Cond.fieldLink RX4 9 "RingCutters$Packing" "most" "[I" ∈ GW := gw_t1 201 rfl rfl
theorem gx_51 : Cond.code yX4_init cX4_init 1 none ∈ GW := gw_t1 199 rfl rfl
theorem gx_52 : Cond.instanceMethod yX4_init ∈ GW := gw_t1 198 rfl rfl
theorem gx_53 : Cond.initialized RX4 ∈ GW := gw_t1 9 rfl rfl
theorem gx_54 : Cond.methodLink RX0 3 objectInit ∈ GW := gw_t1 210 rfl rfl
theorem gx_55 : Cond.fieldLink RX0 9 "RingCutters$Discount" "weights" "[J" ∈ GW := gw_t1 211 rfl rfl
theorem gx_56 : Cond.fieldLink RX0 15 "RingCutters$Discount" "pile" "[I" ∈ GW := gw_t1 212 rfl rfl
theorem gx_57 : Cond.code yX0_init cX0_init 1 none ∈ GW := gw_t1 209 rfl rfl
theorem gx_58 : Cond.instanceMethod yX0_init ∈ GW := gw_t1 208 rfl rfl
theorem gx_59 : Cond.initialized RX0 ∈ GW := gw_t1 10 rfl rfl
theorem gx_60 : Cond.methodLink RX11 3 objectInit ∈ GW := gw_t1 25 rfl rfl
theorem gx_61 : Cond.classLink RX11 9 RX10 ∈ GW := gw_t1 28 rfl rfl
theorem gx_62 : Cond.instantiable RX10 2 ∈ GW := gw_t1 29 rfl rfl
theorem gx_63 : Cond.fieldLink RX11 12 "RingCutters" "tape" "LRingCutters$Tape;" ∈ GW := gw_t1 234 rfl rfl
theorem gx_64 : Cond.classLink RX11 16 RX6 ∈ GW := gw_t1 44 rfl rfl
theorem gx_65 : Cond.instantiable RX6 9 ∈ GW := gw_t1 45 rfl rfl
theorem gx_66 : Cond.fieldLink RX11 19 "RingCutters" "reader" "LRingCutters$Reader;" ∈ GW := gw_t1 235 rfl rfl
theorem gx_67 : Cond.classLink RX11 23 RX3 ∈ GW := gw_t1 118 rfl rfl
theorem gx_68 : Cond.fieldLink RX11 26 "RingCutters" "net" "LRingCutters$Net;" ∈ GW := gw_t1 236 rfl rfl
theorem gx_69 : Cond.classLink RX11 30 RX5 ∈ GW := gw_t1 120 rfl rfl
theorem gx_70 : Cond.instantiable RX5 3 ∈ GW := gw_t1 121 rfl rfl
theorem gx_71 : Cond.methodLink RX11 32 yX5_init ∈ GW := gw_t1 122 rfl rfl
theorem gx_72 : Cond.fieldLink RX11 33 "RingCutters" "past" "LRingCutters$Past;" ∈ GW := gw_t1 237 rfl rfl
theorem gx_73 : Cond.classLink RX11 37 RX2 ∈ GW := gw_t1 140 rfl rfl
theorem gx_74 : Cond.instantiable RX2 2 ∈ GW := gw_t1 141 rfl rfl
theorem gx_75 : Cond.fieldLink RX11 40 "RingCutters" "imageZero" "LRingCutters$Kept;" ∈ GW := gw_t1 238 rfl rfl
theorem gx_76 : Cond.fieldLink RX11 44 "RingCutters" "imageOne" "LRingCutters$Kept;" ∈ GW := gw_t1 239 rfl rfl
theorem gx_77 : Cond.classLink RX11 47 RX1 ∈ GW := gw_t1 156 rfl rfl
theorem gx_78 : Cond.instantiable RX1 1 ∈ GW := gw_t1 157 rfl rfl
theorem gx_79 : Cond.fieldLink RX11 50 "RingCutters" "draws" "LRingCutters$Draws;" ∈ GW := gw_t2 0 rfl rfl
theorem gx_80 : Cond.classLink RX11 54 RX8 ∈ GW := gw_t1 167 rfl rfl
theorem gx_81 : Cond.instantiable RX8 6 ∈ GW := gw_t1 168 rfl rfl
theorem gx_82 : Cond.fieldLink RX11 57 "RingCutters" "rings" "LRingCutters$Rings;" ∈ GW := gw_t2 1 rfl rfl
theorem gx_83 : Cond.classLink RX11 61 RX4 ∈ GW := gw_t1 195 rfl rfl
theorem gx_84 : Cond.instantiable RX4 1 ∈ GW := gw_t1 196 rfl rfl
theorem gx_85 : Cond.fieldLink RX11 64 "RingCutters" "packing" "LRingCutters$Packing;" ∈ GW := gw_t2 2 rfl rfl
theorem gx_86 : Cond.classLink RX11 68 RX0 ∈ GW := gw_t1 205 rfl rfl
theorem gx_87 : Cond.instantiable RX0 7 ∈ GW := gw_t1 206 rfl rfl
theorem gx_88 : Cond.fieldLink RX11 71 "RingCutters" "discount" "LRingCutters$Discount;" ∈ GW := gw_t2 3 rfl rfl
theorem gx_89 : Cond.fieldLink RX11 75 "RingCutters" "ringsStale" "Z" ∈ GW := gw_t2 5 rfl rfl
theorem gx_90 : Cond.fieldLink RX11 79 "RingCutters" "packingStale" "Z" ∈ GW := gw_t2 6 rfl rfl
theorem gx_91 : Cond.fieldLink RX11 82 "RingCutters" "discountStale" "Z" ∈ GW := gw_t2 7 rfl rfl
theorem gx_92 : Cond.code yX11_init cX11_init 1 none ∈ GW := gw_t1 24 rfl rfl
theorem gx_93 : Cond.instanceMethod yX11_init ∈ GW := gw_t1 23 rfl rfl
theorem gx_94 : Cond.initialized RX11 ∈ GW := gw_t1 1 rfl rfl
theorem gx_95 : Cond.methodLink RX12 73 objectInit ∈ GW := gw_t4 151 rfl rfl
theorem gx_96 : Cond.fieldLink RX12 11 "RingCuttersModel" "tape" "[I" ∈ GW := gw_t4 153 rfl rfl
theorem gx_97 : Cond.fieldLink RX12 79 "RingCuttersModel" "now" "[I" ∈ GW := gw_t4 163 rfl rfl
theorem gx_98 : Cond.fieldLink RX12 82 "RingCuttersModel" "read" "[I" ∈ GW := gw_t4 164 rfl rfl
theorem gx_99 : Cond.fieldLink RX12 85 "RingCuttersModel" "kept" "[I" ∈ GW := gw_t4 165 rfl rfl
theorem gx_100 : Cond.fieldLink RX12 88 "RingCuttersModel" "snaps" "[I" ∈ GW := gw_t4 166 rfl rfl
theorem gx_101 : Cond.fieldLink RX12 91 "RingCuttersModel" "before" "[I" ∈ GW := gw_t4 167 rfl rfl
theorem gx_102 : Cond.fieldLink RX12 94 "RingCuttersModel" "live" "[I" ∈ GW := gw_t4 168 rfl rfl
theorem gx_103 : Cond.fieldLink RX12 97 "RingCuttersModel" "names" "[J" ∈ GW := gw_t4 169 rfl rfl
theorem gx_104 : Cond.fieldLink RX12 101 "RingCuttersModel" "isKept" "[Z" ∈ GW := gw_t4 170 rfl rfl
theorem gx_105 : Cond.fieldLink RX12 105 "RingCuttersModel" "isRing" "[Z" ∈ GW := gw_t4 172 rfl rfl
theorem gx_106 : Cond.fieldLink RX12 108 "RingCuttersModel" "apart" "[I" ∈ GW := gw_t4 174 rfl rfl
theorem gx_107 : Cond.fieldLink RX12 111 "RingCuttersModel" "above" "[J" ∈ GW := gw_t4 175 rfl rfl
theorem gx_108 : Cond.fieldLink RX12 114 "RingCuttersModel" "below" "[J" ∈ GW := gw_t4 176 rfl rfl
theorem gx_109 : Cond.fieldLink RX12 117 "RingCuttersModel" "pile" "[I" ∈ GW := gw_t4 177 rfl rfl
theorem gx_110 : Cond.code yX12_init cX12_init 1 none ∈ GW := gw_t4 150 rfl rfl
theorem gx_111 : Cond.instanceMethod yX12_init ∈ GW := gw_t4 149 rfl rfl
theorem gx_112 : Cond.initialized RX12 ∈ GW := gw_t1 11 rfl rfl
theorem fs_X10 : ∀ j, j < 2 → defaultValue (tyX10 j) = vp_V [.null, .int 0] j := lt_s (lt_s (lt_0) rfl) rfl
theorem mfi_X10 : mfI yX10_init cX10_init 1 := ⟨⟨gx_5, gx_6, gx_7⟩, rfl, by decide +kernel, by decide +kernel, by decide +kernel⟩
/-- the cells behind RingCutters$Tape() -/
def body_X10 (X : GX) (a : Nat) : List va_E := (.inr (8, [.ref (a + 1), .int 0])) :: (.inl (X.2.2.1, 640, .inl (fun _ => 0))) :: []
set_option maxRecDepth 20000 in
set_option maxHeartbeats 4000000 in
theorem c_X10_init (l : Launch) (X : GX) (a : Nat) : kMet l yX10_init cX10_init 1 ({ frames := 1, cells := 1, slots := 640, locals := 20 } : Room) X a (.inr (8, [.null, .int 0])) (body_X10 X a) 1 640 := by
  refine kMet_of (own := RX10) (by decide) rfl rfl (Nat.le_of_ble_eq_true rfl) (fun p e s m below meth c H ls Γ hname hN hI hl => ?_)
  refine lv_aload_n Γ.1.1 Γ.1.2.1 dX10_init_0 rfl (lv_at hl 0 rfl) ?_
  refine k_obj Γ hl.1 gx_0 gx_1 gx_2 dX10_init_1 (Nat.le_of_ble_eq_true rfl) (Nat.le_of_ble_eq_true rfl) ?_
  refine lv_aload_n Γ.1.1 Γ.1.2.1 dX10_init_4 rfl (lv_at hl 0 rfl) ?_
  refine lv_sipush (v := (640 : Int32)) Γ.1.1 Γ.1.2.1 dX10_init_5 (by decide) ?_
  refine k_newa (x := .inl (X.2.2.1, 640, .inl (fun _ => 0))) Γ hI 1 rfl (ty := .int) rfl gx_3 (N := 640) (Γ.2.1.2 0 _ rfl).2 rfl (vp_cell_i _ _ _) (by decide) (by decide) (Nat.le_of_ble_eq_true rfl) (Nat.le_of_ble_eq_true rfl) (Nat.le_of_ble_eq_true rfl) dX10_init_8 (fun H hI => ?_)
  refine k_putF Γ hname hI 0 rfl (C := RX10) (T := TX10) (N := 2) tyX10 tyX10_ok nmX10 rfl inlX10 0 (by decide) gx_4 rfl rfl (ty := .array .int) (by decide +kernel) rfl rfl (Nat.le_of_ble_eq_true rfl) (tl' := (.inr (8, [.ref (a + 1), .int 0])) :: (.inl (X.2.2.1, 640, .inl (fun _ => 0))) :: []) rfl dX10_init_10 (fun H locs hI => ?_)
  exact k_vret Γ hI dX10_init_13
theorem fs_X3 : ∀ j, j < 6 → defaultValue (tyX3 j) = vp_V [.null, .null, .int 0, .int 0, .int 0, .int 0] j := lt_s (lt_s (lt_s (lt_s (lt_s (lt_s (lt_0) rfl) rfl) rfl) rfl) rfl) rfl
theorem mfi_X3 : mfI yX3_init cX3_init 1 := ⟨⟨gx_11, gx_12, gx_13⟩, rfl, by decide +kernel, by decide +kernel, by decide +kernel⟩
/-- the cells behind RingCutters$Net() -/
def body_X3 (X : GX) (a : Nat) : List va_E := (.inr (3, [.ref (a + 1), .ref (a + 2), .int 0, .int 0, .int 0, .int 0])) :: (.inl (X.2.2.1, 12, .inl (fun _ => 0))) :: (.inl (X.2.2.1, 144, .inl (fun _ => 0))) :: []
set_option maxRecDepth 20000 in
set_option maxHeartbeats 4000000 in
theorem c_X3_init (l : Launch) (X : GX) (a : Nat) : kMet l yX3_init cX3_init 1 ({ frames := 1, cells := 2, slots := 156, locals := 20 } : Room) X a (.inr (3, [.null, .null, .int 0, .int 0, .int 0, .int 0])) (body_X3 X a) 2 156 := by
  refine kMet_of (own := RX3) (by decide) rfl rfl (Nat.le_of_ble_eq_true rfl) (fun p e s m below meth c H ls Γ hname hN hI hl => ?_)
  refine lv_aload_n Γ.1.1 Γ.1.2.1 dX3_init_0 rfl (lv_at hl 0 rfl) ?_
  refine k_obj Γ hl.1 gx_8 gx_1 gx_2 dX3_init_1 (Nat.le_of_ble_eq_true rfl) (Nat.le_of_ble_eq_true rfl) ?_
  refine lv_aload_n Γ.1.1 Γ.1.2.1 dX3_init_4 rfl (lv_at hl 0 rfl) ?_
  refine lv_bipush (v := (12 : Int32)) Γ.1.1 Γ.1.2.1 dX3_init_5 (by decide) ?_
  refine k_newa (x := .inl (X.2.2.1, 12, .inl (fun _ => 0))) Γ hI 1 rfl (ty := .int) rfl gx_3 (N := 12) (Γ.2.1.2 0 _ rfl).2 rfl (vp_cell_i _ _ _) (by decide) (by decide) (Nat.le_of_ble_eq_true rfl) (Nat.le_of_ble_eq_true rfl) (Nat.le_of_ble_eq_true rfl) dX3_init_7 (fun H hI => ?_)
  refine k_putF Γ hname hI 0 rfl (C := RX3) (T := TX3) (N := 6) tyX3 tyX3_ok nmX3 rfl inlX3 0 (by decide) gx_9 rfl rfl (ty := .array .int) (by decide +kernel) rfl rfl (Nat.le_of_ble_eq_true rfl) (tl' := (.inr (3, [.ref (a + 1), .null, .int 0, .int 0, .int 0, .int 0])) :: (.inl (X.2.2.1, 12, .inl (fun _ => 0))) :: []) rfl dX3_init_9 (fun H locs hI => ?_)
  refine lv_aload_n Γ.1.1 Γ.1.2.1 dX3_init_12 rfl (lv_at hl 0 rfl) ?_
  refine lv_sipush (v := (144 : Int32)) Γ.1.1 Γ.1.2.1 dX3_init_13 (by decide) ?_
  refine k_newa (x := .inl (X.2.2.1, 144, .inl (fun _ => 0))) Γ hI 2 rfl (ty := .int) rfl gx_3 (N := 144) (Γ.2.1.2 0 _ rfl).2 rfl (vp_cell_i _ _ _) (by decide) (by decide) (Nat.le_of_ble_eq_true rfl) (Nat.le_of_ble_eq_true rfl) (Nat.le_of_ble_eq_true rfl) dX3_init_16 (fun H hI => ?_)
  refine k_putF Γ hname hI 0 rfl (C := RX3) (T := TX3) (N := 6) tyX3 tyX3_ok nmX3 rfl inlX3 1 (by decide) gx_10 rfl rfl (ty := .array .int) (by decide +kernel) rfl rfl (Nat.le_of_ble_eq_true rfl) (tl' := (.inr (3, [.ref (a + 1), .ref (a + 2), .int 0, .int 0, .int 0, .int 0])) :: (.inl (X.2.2.1, 12, .inl (fun _ => 0))) :: (.inl (X.2.2.1, 144, .inl (fun _ => 0))) :: []) rfl dX3_init_18 (fun H locs hI => ?_)
  exact k_vret Γ hI dX3_init_21
theorem fs_X6 : ∀ j, j < 9 → defaultValue (tyX6 j) = vp_V [.null, .null, .int 0, .int 0, .int 0, .int 0, .int 0, .long 0, .int 0] j := lt_s (lt_s (lt_s (lt_s (lt_s (lt_s (lt_s (lt_s (lt_s (lt_0) rfl) rfl) rfl) rfl) rfl) rfl) rfl) rfl) rfl
theorem mfi_X6 : mfI yX6_init cX6_init 1 := ⟨⟨gx_20, gx_21, gx_22⟩, rfl, by decide +kernel, by decide +kernel, by decide +kernel⟩
/-- the cells behind RingCutters$Reader() -/
def body_X6 (X : GX) (a : Nat) : List va_E := (.inr (6, [.ref (a + 1), .ref (a + 4), .int 0, .int 0, .int 0, .int 0, .int 0, .long 0, .int 0])) :: (body_X3 X (a + 1) ++ ((.inl (X.2.2.2.1, 12, .inr (.inl (fun _ => 0)))) :: []))
set_option maxRecDepth 20000 in
set_option maxHeartbeats 4000000 in
theorem c_X6_init (l : Launch) (X : GX) (a : Nat) : kMet l yX6_init cX6_init 1 ({ frames := 2, cells := 4, slots := 174, locals := 40 } : Room) X a (.inr (6, [.null, .null, .int 0, .int 0, .int 0, .int 0, .int 0, .long 0, .int 0])) (body_X6 X a) 4 174 := by
  refine kMet_of (own := RX6) (by decide) rfl rfl (Nat.le_of_ble_eq_true rfl) (fun p e s m below meth c H ls Γ hname hN hI hl => ?_)
  refine lv_aload_n Γ.1.1 Γ.1.2.1 dX6_init_0 rfl (lv_at hl 0 rfl) ?_
  refine k_obj Γ hl.1 gx_14 gx_1 gx_2 dX6_init_1 (Nat.le_of_ble_eq_true rfl) (Nat.le_of_ble_eq_true rfl) ?_
  refine lv_aload_n Γ.1.1 Γ.1.2.1 dX6_init_4 rfl (lv_at hl 0 rfl) ?_
  refine k_new (ci := 3) (fs := [.null, .null, .int 0, .int 0, .int 0, .int 0]) (C := RX3) (T := TX3) (N := 6) Γ hI 1 rfl tyX3 tyX3_ok rfl inlX3 gx_15 gx_16 gx_13 (fun j hj => fs_X3 j hj) (Nat.le_of_ble_eq_true rfl) (Nat.le_of_ble_eq_true rfl) dX6_init_5 (fun H hI => ?_)
  refine lv_dup Γ.1.1 Γ.1.2.1 dX6_init_8 rfl ?_
  refine k_call (pre := (.inr (6, [.null, .null, .int 0, .int 0, .int 0, .int 0, .int 0, .long 0, .int 0])) :: []) (tl' := (.inr (6, [.null, .null, .int 0, .int 0, .int 0, .int 0, .int 0, .long 0, .int 0])) :: (body_X3 X (a + 1) ++ ([]))) Γ hl.1 hI (n := 1) rfl (c_X3_init l X (a + 1)) mfi_X3 hN (Or.inl ⟨_, List.mem_of_getElem? (i := 2) rfl⟩) rfl rfl ⟨Nat.le_of_ble_eq_true rfl, Nat.le_of_ble_eq_true rfl⟩ (Nat.le_of_ble_eq_true rfl) dX6_init_9 ⟨Nat.le_of_ble_eq_true rfl, Nat.le_of_ble_eq_true rfl⟩ rfl (fun H locs hI => ?_)
  refine k_putF Γ hname hI 0 rfl (C := RX6) (T := TX6) (N := 9) tyX6 tyX6_ok nmX6 rfl inlX6 0 (by decide) gx_17 rfl rfl (ty := .object "RingCutters$Net") (by decide +kernel) rfl rfl (Nat.le_of_ble_eq_true rfl) (tl' := (.inr (6, [.ref (a + 1), .null, .int 0, .int 0, .int 0, .int 0, .int 0, .long 0, .int 0])) :: (body_X3 X (a + 1) ++ ([]))) rfl dX6_init_12 (fun H locs hI => ?_)
  refine lv_aload_n Γ.1.1 Γ.1.2.1 dX6_init_15 rfl (lv_at hl 0 rfl) ?_
  refine lv_bipush (v := (12 : Int32)) Γ.1.1 Γ.1.2.1 dX6_init_16 (by decide) ?_
  refine k_newa (x := .inl (X.2.2.2.1, 12, .inr (.inl (fun _ => 0)))) Γ hI 4 rfl (ty := .long) rfl gx_18 (N := 12) (Γ.2.1.2 1 _ rfl).2 rfl (vp_cell_l _ _ _) (by decide) (by decide) (Nat.le_of_ble_eq_true rfl) (Nat.le_of_ble_eq_true rfl) (Nat.le_of_ble_eq_true rfl) dX6_init_18 (fun H hI => ?_)
  refine k_putF Γ hname hI 0 rfl (C := RX6) (T := TX6) (N := 9) tyX6 tyX6_ok nmX6 rfl inlX6 1 (by decide) gx_19 rfl rfl (ty := .array .long) (by decide +kernel) rfl rfl (Nat.le_of_ble_eq_true rfl) (tl' := (.inr (6, [.ref (a + 1), .ref (a + 4), .int 0, .int 0, .int 0, .int 0, .int 0, .long 0, .int 0])) :: (body_X3 X (a + 1) ++ ((.inl (X.2.2.2.1, 12, .inr (.inl (fun _ => 0)))) :: []))) rfl dX6_init_20 (fun H locs hI => ?_)
  exact k_vret Γ hI dX6_init_23
theorem fs_X5 : ∀ j, j < 3 → defaultValue (tyX5 j) = vp_V [.null, .int 0, .int 0] j := lt_s (lt_s (lt_s (lt_0) rfl) rfl) rfl
theorem mfi_X5 : mfI yX5_init cX5_init 2 := ⟨⟨gx_26, gx_27, gx_28⟩, rfl, by decide +kernel, by decide +kernel, by decide +kernel⟩
/-- the cells behind RingCutters$Past() -/
def body_X5 (X : GX) (a : Nat) : List va_E := (.inr (5, [.ref (a + 1), .int 0, .int 0])) :: (.inl (X.2.2.2.2.2, 9, .inr (.inr (.inr (.inr (va_up (va_up (va_up (va_up (va_up (va_up (va_up (va_up (va_up (fun _ => none) (0 : Int32).toNatClampNeg (some (a + 2))) (1 : Int32).toNatClampNeg (some (a + 5))) (2 : Int32).toNatClampNeg (some (a + 8))) (3 : Int32).toNatClampNeg (some (a + 11))) (4 : Int32).toNatClampNeg (some (a + 14))) (5 : Int32).toNatClampNeg (some (a + 17))) (6 : Int32).toNatClampNeg (some (a + 20))) (7 : Int32).toNatClampNeg (some (a + 23))) (8 : Int32).toNatClampNeg (some (a + 26)))))))) :: (body_X3 X (a + 2) ++ ((body_X3 X (a + 5) ++ ((body_X3 X (a + 8) ++ ((body_X3 X (a + 11) ++ ((body_X3 X (a + 14) ++ ((body_X3 X (a + 17) ++ ((body_X3 X (a + 20) ++ ((body_X3 X (a + 23) ++ ((body_X3 X (a + 26) ++ ([]))))))))))))))))))
set_option maxRecDepth 20000 in
set_option maxHeartbeats 4000000 in
theorem c_X5_init (l : Launch) (X : GX) (a : Nat) : kMet l yX5_init cX5_init 2 ({ frames := 2, cells := 28, slots := 1467, locals := 40 } : Room) X a (.inr (5, [.null, .int 0, .int 0])) (body_X5 X a) 28 1467 := by
  refine kMet_of (own := RX5) (by decide) rfl rfl (Nat.le_of_ble_eq_true rfl) (fun p e s m below meth c H ls Γ hname hN hI hl => ?_)
  refine lv_aload_n Γ.1.1 Γ.1.2.1 dX5_init_0 rfl (lv_at hl 0 rfl) ?_
  refine k_obj Γ hl.1 gx_23 gx_1 gx_2 dX5_init_1 (Nat.le_of_ble_eq_true rfl) (Nat.le_of_ble_eq_true rfl) ?_
  refine lv_aload_n Γ.1.1 Γ.1.2.1 dX5_init_4 rfl (lv_at hl 0 rfl) ?_
  refine lv_bipush (v := (9 : Int32)) Γ.1.1 Γ.1.2.1 dX5_init_5 (by decide) ?_
  refine k_newq Γ hI 1 rfl (C := "RingCutters$Net") gx_24 (va_AO.use hN.1) (N := 9) (cA := X.2.2.2.2.2) (by obtain ⟨kA, comp, -, -, -, h9⟩ := (Γ.2.1.2 3 _ rfl).2; exact h9) (by decide) (by decide) (Nat.le_of_ble_eq_true rfl) (Nat.le_of_ble_eq_true rfl) (Nat.le_of_ble_eq_true rfl) dX5_init_7 (fun H hI => ?_)
  refine k_putF Γ hname hI 0 rfl (C := RX5) (T := TX5) (N := 3) tyX5 tyX5_ok nmX5 rfl inlX5 0 (by decide) gx_25 rfl rfl (ty := .array (.object "RingCutters$Net")) (by decide +kernel) rfl rfl (Nat.le_of_ble_eq_true rfl) (tl' := (.inr (5, [.ref (a + 1), .int 0, .int 0])) :: (.inl (X.2.2.2.2.2, 9, .inr (.inr (.inr (.inr (fun _ => none)))))) :: []) rfl dX5_init_10 (fun H locs hI => ?_)
  refine lv_iconst (v := (0 : Int32)) Γ.1.1 Γ.1.2.1 dX5_init_13 (by decide) ?_
  refine lv_istore_n (lv' := [(1, .int (0 : Int32)), (0, .ref a)]) Γ.1.1 Γ.1.2.1 dX5_init_14 rfl hl (by decide) rfl (fun ls hl => ?_)
  refine lv_iload_n Γ.1.1 Γ.1.2.1 dX5_init_15 rfl (lv_at hl 0 rfl) ?_
  refine lv_aload_n Γ.1.1 Γ.1.2.1 dX5_init_16 rfl (lv_at hl 1 rfl) ?_
  refine k_get Γ hI 0 rfl (C := RX5) (T := TX5) (N := 3) rfl inlX5 0 (by decide) gx_25 rfl dX5_init_17 ?_
  refine va_alen Γ.1.1 Γ.1.2.1 Γ.2.1 hI.1 1 3 (by rw [tlw_at]; rfl) rfl (v := (9 : Int32)) rfl dX5_init_20 ?_
  refine lv_icmp_ge (tgt := 43) Γ.1.1 Γ.1.2.1 dX5_init_21 (by decide) (fun c9 => ?_) (fun c9 => ?_)
  exact absurd c9 (by decide)
  clear c9
  refine lv_aload_n Γ.1.1 Γ.1.2.1 dX5_init_24 rfl (lv_at hl 1 rfl) ?_
  refine k_get Γ hI 0 rfl (C := RX5) (T := TX5) (N := 3) rfl inlX5 0 (by decide) gx_25 rfl dX5_init_25 ?_
  refine lv_iload_n Γ.1.1 Γ.1.2.1 dX5_init_28 rfl (lv_at hl 0 rfl) ?_
  refine k_new (ci := 3) (fs := [.null, .null, .int 0, .int 0, .int 0, .int 0]) (C := RX3) (T := TX3) (N := 6) Γ hI 2 rfl tyX3 tyX3_ok rfl inlX3 gx_24 gx_16 gx_13 (fun j hj => fs_X3 j hj) (Nat.le_of_ble_eq_true rfl) (Nat.le_of_ble_eq_true rfl) dX5_init_29 (fun H hI => ?_)
  refine lv_dup Γ.1.1 Γ.1.2.1 dX5_init_32 rfl ?_
  refine k_call (pre := (.inr (5, [.ref (a + 1), .int 0, .int 0])) :: (.inl (X.2.2.2.2.2, 9, .inr (.inr (.inr (.inr (fun _ => none)))))) :: []) (tl' := (.inr (5, [.ref (a + 1), .int 0, .int 0])) :: (.inl (X.2.2.2.2.2, 9, .inr (.inr (.inr (.inr (fun _ => none)))))) :: (body_X3 X (a + 2) ++ ([]))) Γ hl.1 hI (n := 2) rfl (c_X3_init l X (a + 2)) mfi_X3 hN (Or.inl ⟨_, List.mem_of_getElem? (i := 4) rfl⟩) rfl rfl ⟨Nat.le_of_ble_eq_true rfl, Nat.le_of_ble_eq_true rfl⟩ (Nat.le_of_ble_eq_true rfl) dX5_init_33 ⟨Nat.le_of_ble_eq_true rfl, Nat.le_of_ble_eq_true rfl⟩ rfl (fun H locs hI => ?_)
  refine k_astq Γ hI 1 2 3 3 (r := (RX3, TX3, 6)) rfl rfl rfl rfl (by unfold vp_in; decide) (tl' := (.inr (5, [.ref (a + 1), .int 0, .int 0])) :: (.inl (X.2.2.2.2.2, 9, .inr (.inr (.inr (.inr (va_up (fun _ => none) (0 : Int32).toNatClampNeg (some (a + 2)))))))) :: (body_X3 X (a + 2) ++ ([]))) rfl dX5_init_36 (fun H locs hI => ?_)
  refine lv_iinc (v := (1 : Int32)) (lv' := [(1, .int (1 : Int32)), (0, .ref a)]) Γ.1.1 Γ.1.2.1 dX5_init_37 hl (k := 0) rfl (by decide) (by decide) rfl (fun ls hl => ?_)
  refine lv_goto (tgt := 15) Γ.1.1 Γ.1.2.1 dX5_init_40 (by decide) ?_
  refine lv_iload_n Γ.1.1 Γ.1.2.1 dX5_init_15 rfl (lv_at hl 0 rfl) ?_
  refine lv_aload_n Γ.1.1 Γ.1.2.1 dX5_init_16 rfl (lv_at hl 1 rfl) ?_
  refine k_get Γ hI 0 rfl (C := RX5) (T := TX5) (N := 3) rfl inlX5 0 (by decide) gx_25 rfl dX5_init_17 ?_
  refine va_alen Γ.1.1 Γ.1.2.1 Γ.2.1 hI.1 1 3 (by rw [tlw_at]; rfl) rfl (v := (9 : Int32)) rfl dX5_init_20 ?_
  refine lv_icmp_ge (tgt := 43) Γ.1.1 Γ.1.2.1 dX5_init_21 (by decide) (fun c9 => ?_) (fun c9 => ?_)
  exact absurd c9 (by decide)
  clear c9
  refine lv_aload_n Γ.1.1 Γ.1.2.1 dX5_init_24 rfl (lv_at hl 1 rfl) ?_
  refine k_get Γ hI 0 rfl (C := RX5) (T := TX5) (N := 3) rfl inlX5 0 (by decide) gx_25 rfl dX5_init_25 ?_
  refine lv_iload_n Γ.1.1 Γ.1.2.1 dX5_init_28 rfl (lv_at hl 0 rfl) ?_
  refine k_new (ci := 3) (fs := [.null, .null, .int 0, .int 0, .int 0, .int 0]) (C := RX3) (T := TX3) (N := 6) Γ hI 5 rfl tyX3 tyX3_ok rfl inlX3 gx_24 gx_16 gx_13 (fun j hj => fs_X3 j hj) (Nat.le_of_ble_eq_true rfl) (Nat.le_of_ble_eq_true rfl) dX5_init_29 (fun H hI => ?_)
  refine lv_dup Γ.1.1 Γ.1.2.1 dX5_init_32 rfl ?_
  refine k_call (pre := (.inr (5, [.ref (a + 1), .int 0, .int 0])) :: (.inl (X.2.2.2.2.2, 9, .inr (.inr (.inr (.inr (va_up (fun _ => none) (0 : Int32).toNatClampNeg (some (a + 2)))))))) :: (body_X3 X (a + 2) ++ ([]))) (tl' := (.inr (5, [.ref (a + 1), .int 0, .int 0])) :: (.inl (X.2.2.2.2.2, 9, .inr (.inr (.inr (.inr (va_up (fun _ => none) (0 : Int32).toNatClampNeg (some (a + 2)))))))) :: (body_X3 X (a + 2) ++ ((body_X3 X (a + 5) ++ ([]))))) Γ hl.1 hI (n := 5) rfl (c_X3_init l X (a + 5)) mfi_X3 hN (Or.inl ⟨_, List.mem_of_getElem? (i := 4) rfl⟩) rfl rfl ⟨Nat.le_of_ble_eq_true rfl, Nat.le_of_ble_eq_true rfl⟩ (Nat.le_of_ble_eq_true rfl) dX5_init_33 ⟨Nat.le_of_ble_eq_true rfl, Nat.le_of_ble_eq_true rfl⟩ rfl (fun H locs hI => ?_)
  refine k_astq Γ hI 1 5 3 3 (r := (RX3, TX3, 6)) rfl rfl rfl rfl (by unfold vp_in; decide) (tl' := (.inr (5, [.ref (a + 1), .int 0, .int 0])) :: (.inl (X.2.2.2.2.2, 9, .inr (.inr (.inr (.inr (va_up (va_up (fun _ => none) (0 : Int32).toNatClampNeg (some (a + 2))) (1 : Int32).toNatClampNeg (some (a + 5)))))))) :: (body_X3 X (a + 2) ++ ((body_X3 X (a + 5) ++ ([]))))) rfl dX5_init_36 (fun H locs hI => ?_)
  refine lv_iinc (v := (2 : Int32)) (lv' := [(1, .int (2 : Int32)), (0, .ref a)]) Γ.1.1 Γ.1.2.1 dX5_init_37 hl (k := 0) rfl (by decide) (by decide) rfl (fun ls hl => ?_)
  refine lv_goto (tgt := 15) Γ.1.1 Γ.1.2.1 dX5_init_40 (by decide) ?_
  refine lv_iload_n Γ.1.1 Γ.1.2.1 dX5_init_15 rfl (lv_at hl 0 rfl) ?_
  refine lv_aload_n Γ.1.1 Γ.1.2.1 dX5_init_16 rfl (lv_at hl 1 rfl) ?_
  refine k_get Γ hI 0 rfl (C := RX5) (T := TX5) (N := 3) rfl inlX5 0 (by decide) gx_25 rfl dX5_init_17 ?_
  refine va_alen Γ.1.1 Γ.1.2.1 Γ.2.1 hI.1 1 3 (by rw [tlw_at]; rfl) rfl (v := (9 : Int32)) rfl dX5_init_20 ?_
  refine lv_icmp_ge (tgt := 43) Γ.1.1 Γ.1.2.1 dX5_init_21 (by decide) (fun c9 => ?_) (fun c9 => ?_)
  exact absurd c9 (by decide)
  clear c9
  refine lv_aload_n Γ.1.1 Γ.1.2.1 dX5_init_24 rfl (lv_at hl 1 rfl) ?_
  refine k_get Γ hI 0 rfl (C := RX5) (T := TX5) (N := 3) rfl inlX5 0 (by decide) gx_25 rfl dX5_init_25 ?_
  refine lv_iload_n Γ.1.1 Γ.1.2.1 dX5_init_28 rfl (lv_at hl 0 rfl) ?_
  refine k_new (ci := 3) (fs := [.null, .null, .int 0, .int 0, .int 0, .int 0]) (C := RX3) (T := TX3) (N := 6) Γ hI 8 rfl tyX3 tyX3_ok rfl inlX3 gx_24 gx_16 gx_13 (fun j hj => fs_X3 j hj) (Nat.le_of_ble_eq_true rfl) (Nat.le_of_ble_eq_true rfl) dX5_init_29 (fun H hI => ?_)
  refine lv_dup Γ.1.1 Γ.1.2.1 dX5_init_32 rfl ?_
  refine k_call (pre := (.inr (5, [.ref (a + 1), .int 0, .int 0])) :: (.inl (X.2.2.2.2.2, 9, .inr (.inr (.inr (.inr (va_up (va_up (fun _ => none) (0 : Int32).toNatClampNeg (some (a + 2))) (1 : Int32).toNatClampNeg (some (a + 5)))))))) :: (body_X3 X (a + 2) ++ ((body_X3 X (a + 5) ++ ([]))))) (tl' := (.inr (5, [.ref (a + 1), .int 0, .int 0])) :: (.inl (X.2.2.2.2.2, 9, .inr (.inr (.inr (.inr (va_up (va_up (fun _ => none) (0 : Int32).toNatClampNeg (some (a + 2))) (1 : Int32).toNatClampNeg (some (a + 5)))))))) :: (body_X3 X (a + 2) ++ ((body_X3 X (a + 5) ++ ((body_X3 X (a + 8) ++ ([]))))))) Γ hl.1 hI (n := 8) rfl (c_X3_init l X (a + 8)) mfi_X3 hN (Or.inl ⟨_, List.mem_of_getElem? (i := 4) rfl⟩) rfl rfl ⟨Nat.le_of_ble_eq_true rfl, Nat.le_of_ble_eq_true rfl⟩ (Nat.le_of_ble_eq_true rfl) dX5_init_33 ⟨Nat.le_of_ble_eq_true rfl, Nat.le_of_ble_eq_true rfl⟩ rfl (fun H locs hI => ?_)
  refine k_astq Γ hI 1 8 3 3 (r := (RX3, TX3, 6)) rfl rfl rfl rfl (by unfold vp_in; decide) (tl' := (.inr (5, [.ref (a + 1), .int 0, .int 0])) :: (.inl (X.2.2.2.2.2, 9, .inr (.inr (.inr (.inr (va_up (va_up (va_up (fun _ => none) (0 : Int32).toNatClampNeg (some (a + 2))) (1 : Int32).toNatClampNeg (some (a + 5))) (2 : Int32).toNatClampNeg (some (a + 8)))))))) :: (body_X3 X (a + 2) ++ ((body_X3 X (a + 5) ++ ((body_X3 X (a + 8) ++ ([]))))))) rfl dX5_init_36 (fun H locs hI => ?_)
  refine lv_iinc (v := (3 : Int32)) (lv' := [(1, .int (3 : Int32)), (0, .ref a)]) Γ.1.1 Γ.1.2.1 dX5_init_37 hl (k := 0) rfl (by decide) (by decide) rfl (fun ls hl => ?_)
  refine lv_goto (tgt := 15) Γ.1.1 Γ.1.2.1 dX5_init_40 (by decide) ?_
  refine lv_iload_n Γ.1.1 Γ.1.2.1 dX5_init_15 rfl (lv_at hl 0 rfl) ?_
  refine lv_aload_n Γ.1.1 Γ.1.2.1 dX5_init_16 rfl (lv_at hl 1 rfl) ?_
  refine k_get Γ hI 0 rfl (C := RX5) (T := TX5) (N := 3) rfl inlX5 0 (by decide) gx_25 rfl dX5_init_17 ?_
  refine va_alen Γ.1.1 Γ.1.2.1 Γ.2.1 hI.1 1 3 (by rw [tlw_at]; rfl) rfl (v := (9 : Int32)) rfl dX5_init_20 ?_
  refine lv_icmp_ge (tgt := 43) Γ.1.1 Γ.1.2.1 dX5_init_21 (by decide) (fun c9 => ?_) (fun c9 => ?_)
  exact absurd c9 (by decide)
  clear c9
  refine lv_aload_n Γ.1.1 Γ.1.2.1 dX5_init_24 rfl (lv_at hl 1 rfl) ?_
  refine k_get Γ hI 0 rfl (C := RX5) (T := TX5) (N := 3) rfl inlX5 0 (by decide) gx_25 rfl dX5_init_25 ?_
  refine lv_iload_n Γ.1.1 Γ.1.2.1 dX5_init_28 rfl (lv_at hl 0 rfl) ?_
  refine k_new (ci := 3) (fs := [.null, .null, .int 0, .int 0, .int 0, .int 0]) (C := RX3) (T := TX3) (N := 6) Γ hI 11 rfl tyX3 tyX3_ok rfl inlX3 gx_24 gx_16 gx_13 (fun j hj => fs_X3 j hj) (Nat.le_of_ble_eq_true rfl) (Nat.le_of_ble_eq_true rfl) dX5_init_29 (fun H hI => ?_)
  refine lv_dup Γ.1.1 Γ.1.2.1 dX5_init_32 rfl ?_
  refine k_call (pre := (.inr (5, [.ref (a + 1), .int 0, .int 0])) :: (.inl (X.2.2.2.2.2, 9, .inr (.inr (.inr (.inr (va_up (va_up (va_up (fun _ => none) (0 : Int32).toNatClampNeg (some (a + 2))) (1 : Int32).toNatClampNeg (some (a + 5))) (2 : Int32).toNatClampNeg (some (a + 8)))))))) :: (body_X3 X (a + 2) ++ ((body_X3 X (a + 5) ++ ((body_X3 X (a + 8) ++ ([]))))))) (tl' := (.inr (5, [.ref (a + 1), .int 0, .int 0])) :: (.inl (X.2.2.2.2.2, 9, .inr (.inr (.inr (.inr (va_up (va_up (va_up (fun _ => none) (0 : Int32).toNatClampNeg (some (a + 2))) (1 : Int32).toNatClampNeg (some (a + 5))) (2 : Int32).toNatClampNeg (some (a + 8)))))))) :: (body_X3 X (a + 2) ++ ((body_X3 X (a + 5) ++ ((body_X3 X (a + 8) ++ ((body_X3 X (a + 11) ++ ([]))))))))) Γ hl.1 hI (n := 11) rfl (c_X3_init l X (a + 11)) mfi_X3 hN (Or.inl ⟨_, List.mem_of_getElem? (i := 4) rfl⟩) rfl rfl ⟨Nat.le_of_ble_eq_true rfl, Nat.le_of_ble_eq_true rfl⟩ (Nat.le_of_ble_eq_true rfl) dX5_init_33 ⟨Nat.le_of_ble_eq_true rfl, Nat.le_of_ble_eq_true rfl⟩ rfl (fun H locs hI => ?_)
  refine k_astq Γ hI 1 11 3 3 (r := (RX3, TX3, 6)) rfl rfl rfl rfl (by unfold vp_in; decide) (tl' := (.inr (5, [.ref (a + 1), .int 0, .int 0])) :: (.inl (X.2.2.2.2.2, 9, .inr (.inr (.inr (.inr (va_up (va_up (va_up (va_up (fun _ => none) (0 : Int32).toNatClampNeg (some (a + 2))) (1 : Int32).toNatClampNeg (some (a + 5))) (2 : Int32).toNatClampNeg (some (a + 8))) (3 : Int32).toNatClampNeg (some (a + 11)))))))) :: (body_X3 X (a + 2) ++ ((body_X3 X (a + 5) ++ ((body_X3 X (a + 8) ++ ((body_X3 X (a + 11) ++ ([]))))))))) rfl dX5_init_36 (fun H locs hI => ?_)
  refine lv_iinc (v := (4 : Int32)) (lv' := [(1, .int (4 : Int32)), (0, .ref a)]) Γ.1.1 Γ.1.2.1 dX5_init_37 hl (k := 0) rfl (by decide) (by decide) rfl (fun ls hl => ?_)
  refine lv_goto (tgt := 15) Γ.1.1 Γ.1.2.1 dX5_init_40 (by decide) ?_
  refine lv_iload_n Γ.1.1 Γ.1.2.1 dX5_init_15 rfl (lv_at hl 0 rfl) ?_
  refine lv_aload_n Γ.1.1 Γ.1.2.1 dX5_init_16 rfl (lv_at hl 1 rfl) ?_
  refine k_get Γ hI 0 rfl (C := RX5) (T := TX5) (N := 3) rfl inlX5 0 (by decide) gx_25 rfl dX5_init_17 ?_
  refine va_alen Γ.1.1 Γ.1.2.1 Γ.2.1 hI.1 1 3 (by rw [tlw_at]; rfl) rfl (v := (9 : Int32)) rfl dX5_init_20 ?_
  refine lv_icmp_ge (tgt := 43) Γ.1.1 Γ.1.2.1 dX5_init_21 (by decide) (fun c9 => ?_) (fun c9 => ?_)
  exact absurd c9 (by decide)
  clear c9
  refine lv_aload_n Γ.1.1 Γ.1.2.1 dX5_init_24 rfl (lv_at hl 1 rfl) ?_
  refine k_get Γ hI 0 rfl (C := RX5) (T := TX5) (N := 3) rfl inlX5 0 (by decide) gx_25 rfl dX5_init_25 ?_
  refine lv_iload_n Γ.1.1 Γ.1.2.1 dX5_init_28 rfl (lv_at hl 0 rfl) ?_
  refine k_new (ci := 3) (fs := [.null, .null, .int 0, .int 0, .int 0, .int 0]) (C := RX3) (T := TX3) (N := 6) Γ hI 14 rfl tyX3 tyX3_ok rfl inlX3 gx_24 gx_16 gx_13 (fun j hj => fs_X3 j hj) (Nat.le_of_ble_eq_true rfl) (Nat.le_of_ble_eq_true rfl) dX5_init_29 (fun H hI => ?_)
  refine lv_dup Γ.1.1 Γ.1.2.1 dX5_init_32 rfl ?_
  refine k_call (pre := (.inr (5, [.ref (a + 1), .int 0, .int 0])) :: (.inl (X.2.2.2.2.2, 9, .inr (.inr (.inr (.inr (va_up (va_up (va_up (va_up (fun _ => none) (0 : Int32).toNatClampNeg (some (a + 2))) (1 : Int32).toNatClampNeg (some (a + 5))) (2 : Int32).toNatClampNeg (some (a + 8))) (3 : Int32).toNatClampNeg (some (a + 11)))))))) :: (body_X3 X (a + 2) ++ ((body_X3 X (a + 5) ++ ((body_X3 X (a + 8) ++ ((body_X3 X (a + 11) ++ ([]))))))))) (tl' := (.inr (5, [.ref (a + 1), .int 0, .int 0])) :: (.inl (X.2.2.2.2.2, 9, .inr (.inr (.inr (.inr (va_up (va_up (va_up (va_up (fun _ => none) (0 : Int32).toNatClampNeg (some (a + 2))) (1 : Int32).toNatClampNeg (some (a + 5))) (2 : Int32).toNatClampNeg (some (a + 8))) (3 : Int32).toNatClampNeg (some (a + 11)))))))) :: (body_X3 X (a + 2) ++ ((body_X3 X (a + 5) ++ ((body_X3 X (a + 8) ++ ((body_X3 X (a + 11) ++ ((body_X3 X (a + 14) ++ ([]))))))))))) Γ hl.1 hI (n := 14) rfl (c_X3_init l X (a + 14)) mfi_X3 hN (Or.inl ⟨_, List.mem_of_getElem? (i := 4) rfl⟩) rfl rfl ⟨Nat.le_of_ble_eq_true rfl, Nat.le_of_ble_eq_true rfl⟩ (Nat.le_of_ble_eq_true rfl) dX5_init_33 ⟨Nat.le_of_ble_eq_true rfl, Nat.le_of_ble_eq_true rfl⟩ rfl (fun H locs hI => ?_)
  refine k_astq Γ hI 1 14 3 3 (r := (RX3, TX3, 6)) rfl rfl rfl rfl (by unfold vp_in; decide) (tl' := (.inr (5, [.ref (a + 1), .int 0, .int 0])) :: (.inl (X.2.2.2.2.2, 9, .inr (.inr (.inr (.inr (va_up (va_up (va_up (va_up (va_up (fun _ => none) (0 : Int32).toNatClampNeg (some (a + 2))) (1 : Int32).toNatClampNeg (some (a + 5))) (2 : Int32).toNatClampNeg (some (a + 8))) (3 : Int32).toNatClampNeg (some (a + 11))) (4 : Int32).toNatClampNeg (some (a + 14)))))))) :: (body_X3 X (a + 2) ++ ((body_X3 X (a + 5) ++ ((body_X3 X (a + 8) ++ ((body_X3 X (a + 11) ++ ((body_X3 X (a + 14) ++ ([]))))))))))) rfl dX5_init_36 (fun H locs hI => ?_)
  refine lv_iinc (v := (5 : Int32)) (lv' := [(1, .int (5 : Int32)), (0, .ref a)]) Γ.1.1 Γ.1.2.1 dX5_init_37 hl (k := 0) rfl (by decide) (by decide) rfl (fun ls hl => ?_)
  refine lv_goto (tgt := 15) Γ.1.1 Γ.1.2.1 dX5_init_40 (by decide) ?_
  refine lv_iload_n Γ.1.1 Γ.1.2.1 dX5_init_15 rfl (lv_at hl 0 rfl) ?_
  refine lv_aload_n Γ.1.1 Γ.1.2.1 dX5_init_16 rfl (lv_at hl 1 rfl) ?_
  refine k_get Γ hI 0 rfl (C := RX5) (T := TX5) (N := 3) rfl inlX5 0 (by decide) gx_25 rfl dX5_init_17 ?_
  refine va_alen Γ.1.1 Γ.1.2.1 Γ.2.1 hI.1 1 3 (by rw [tlw_at]; rfl) rfl (v := (9 : Int32)) rfl dX5_init_20 ?_
  refine lv_icmp_ge (tgt := 43) Γ.1.1 Γ.1.2.1 dX5_init_21 (by decide) (fun c9 => ?_) (fun c9 => ?_)
  exact absurd c9 (by decide)
  clear c9
  refine lv_aload_n Γ.1.1 Γ.1.2.1 dX5_init_24 rfl (lv_at hl 1 rfl) ?_
  refine k_get Γ hI 0 rfl (C := RX5) (T := TX5) (N := 3) rfl inlX5 0 (by decide) gx_25 rfl dX5_init_25 ?_
  refine lv_iload_n Γ.1.1 Γ.1.2.1 dX5_init_28 rfl (lv_at hl 0 rfl) ?_
  refine k_new (ci := 3) (fs := [.null, .null, .int 0, .int 0, .int 0, .int 0]) (C := RX3) (T := TX3) (N := 6) Γ hI 17 rfl tyX3 tyX3_ok rfl inlX3 gx_24 gx_16 gx_13 (fun j hj => fs_X3 j hj) (Nat.le_of_ble_eq_true rfl) (Nat.le_of_ble_eq_true rfl) dX5_init_29 (fun H hI => ?_)
  refine lv_dup Γ.1.1 Γ.1.2.1 dX5_init_32 rfl ?_
  refine k_call (pre := (.inr (5, [.ref (a + 1), .int 0, .int 0])) :: (.inl (X.2.2.2.2.2, 9, .inr (.inr (.inr (.inr (va_up (va_up (va_up (va_up (va_up (fun _ => none) (0 : Int32).toNatClampNeg (some (a + 2))) (1 : Int32).toNatClampNeg (some (a + 5))) (2 : Int32).toNatClampNeg (some (a + 8))) (3 : Int32).toNatClampNeg (some (a + 11))) (4 : Int32).toNatClampNeg (some (a + 14)))))))) :: (body_X3 X (a + 2) ++ ((body_X3 X (a + 5) ++ ((body_X3 X (a + 8) ++ ((body_X3 X (a + 11) ++ ((body_X3 X (a + 14) ++ ([]))))))))))) (tl' := (.inr (5, [.ref (a + 1), .int 0, .int 0])) :: (.inl (X.2.2.2.2.2, 9, .inr (.inr (.inr (.inr (va_up (va_up (va_up (va_up (va_up (fun _ => none) (0 : Int32).toNatClampNeg (some (a + 2))) (1 : Int32).toNatClampNeg (some (a + 5))) (2 : Int32).toNatClampNeg (some (a + 8))) (3 : Int32).toNatClampNeg (some (a + 11))) (4 : Int32).toNatClampNeg (some (a + 14)))))))) :: (body_X3 X (a + 2) ++ ((body_X3 X (a + 5) ++ ((body_X3 X (a + 8) ++ ((body_X3 X (a + 11) ++ ((body_X3 X (a + 14) ++ ((body_X3 X (a + 17) ++ ([]))))))))))))) Γ hl.1 hI (n := 17) rfl (c_X3_init l X (a + 17)) mfi_X3 hN (Or.inl ⟨_, List.mem_of_getElem? (i := 4) rfl⟩) rfl rfl ⟨Nat.le_of_ble_eq_true rfl, Nat.le_of_ble_eq_true rfl⟩ (Nat.le_of_ble_eq_true rfl) dX5_init_33 ⟨Nat.le_of_ble_eq_true rfl, Nat.le_of_ble_eq_true rfl⟩ rfl (fun H locs hI => ?_)
  refine k_astq Γ hI 1 17 3 3 (r := (RX3, TX3, 6)) rfl rfl rfl rfl (by unfold vp_in; decide) (tl' := (.inr (5, [.ref (a + 1), .int 0, .int 0])) :: (.inl (X.2.2.2.2.2, 9, .inr (.inr (.inr (.inr (va_up (va_up (va_up (va_up (va_up (va_up (fun _ => none) (0 : Int32).toNatClampNeg (some (a + 2))) (1 : Int32).toNatClampNeg (some (a + 5))) (2 : Int32).toNatClampNeg (some (a + 8))) (3 : Int32).toNatClampNeg (some (a + 11))) (4 : Int32).toNatClampNeg (some (a + 14))) (5 : Int32).toNatClampNeg (some (a + 17)))))))) :: (body_X3 X (a + 2) ++ ((body_X3 X (a + 5) ++ ((body_X3 X (a + 8) ++ ((body_X3 X (a + 11) ++ ((body_X3 X (a + 14) ++ ((body_X3 X (a + 17) ++ ([]))))))))))))) rfl dX5_init_36 (fun H locs hI => ?_)
  refine lv_iinc (v := (6 : Int32)) (lv' := [(1, .int (6 : Int32)), (0, .ref a)]) Γ.1.1 Γ.1.2.1 dX5_init_37 hl (k := 0) rfl (by decide) (by decide) rfl (fun ls hl => ?_)
  refine lv_goto (tgt := 15) Γ.1.1 Γ.1.2.1 dX5_init_40 (by decide) ?_
  refine lv_iload_n Γ.1.1 Γ.1.2.1 dX5_init_15 rfl (lv_at hl 0 rfl) ?_
  refine lv_aload_n Γ.1.1 Γ.1.2.1 dX5_init_16 rfl (lv_at hl 1 rfl) ?_
  refine k_get Γ hI 0 rfl (C := RX5) (T := TX5) (N := 3) rfl inlX5 0 (by decide) gx_25 rfl dX5_init_17 ?_
  refine va_alen Γ.1.1 Γ.1.2.1 Γ.2.1 hI.1 1 3 (by rw [tlw_at]; rfl) rfl (v := (9 : Int32)) rfl dX5_init_20 ?_
  refine lv_icmp_ge (tgt := 43) Γ.1.1 Γ.1.2.1 dX5_init_21 (by decide) (fun c9 => ?_) (fun c9 => ?_)
  exact absurd c9 (by decide)
  clear c9
  refine lv_aload_n Γ.1.1 Γ.1.2.1 dX5_init_24 rfl (lv_at hl 1 rfl) ?_
  refine k_get Γ hI 0 rfl (C := RX5) (T := TX5) (N := 3) rfl inlX5 0 (by decide) gx_25 rfl dX5_init_25 ?_
  refine lv_iload_n Γ.1.1 Γ.1.2.1 dX5_init_28 rfl (lv_at hl 0 rfl) ?_
  refine k_new (ci := 3) (fs := [.null, .null, .int 0, .int 0, .int 0, .int 0]) (C := RX3) (T := TX3) (N := 6) Γ hI 20 rfl tyX3 tyX3_ok rfl inlX3 gx_24 gx_16 gx_13 (fun j hj => fs_X3 j hj) (Nat.le_of_ble_eq_true rfl) (Nat.le_of_ble_eq_true rfl) dX5_init_29 (fun H hI => ?_)
  refine lv_dup Γ.1.1 Γ.1.2.1 dX5_init_32 rfl ?_
  refine k_call (pre := (.inr (5, [.ref (a + 1), .int 0, .int 0])) :: (.inl (X.2.2.2.2.2, 9, .inr (.inr (.inr (.inr (va_up (va_up (va_up (va_up (va_up (va_up (fun _ => none) (0 : Int32).toNatClampNeg (some (a + 2))) (1 : Int32).toNatClampNeg (some (a + 5))) (2 : Int32).toNatClampNeg (some (a + 8))) (3 : Int32).toNatClampNeg (some (a + 11))) (4 : Int32).toNatClampNeg (some (a + 14))) (5 : Int32).toNatClampNeg (some (a + 17)))))))) :: (body_X3 X (a + 2) ++ ((body_X3 X (a + 5) ++ ((body_X3 X (a + 8) ++ ((body_X3 X (a + 11) ++ ((body_X3 X (a + 14) ++ ((body_X3 X (a + 17) ++ ([]))))))))))))) (tl' := (.inr (5, [.ref (a + 1), .int 0, .int 0])) :: (.inl (X.2.2.2.2.2, 9, .inr (.inr (.inr (.inr (va_up (va_up (va_up (va_up (va_up (va_up (fun _ => none) (0 : Int32).toNatClampNeg (some (a + 2))) (1 : Int32).toNatClampNeg (some (a + 5))) (2 : Int32).toNatClampNeg (some (a + 8))) (3 : Int32).toNatClampNeg (some (a + 11))) (4 : Int32).toNatClampNeg (some (a + 14))) (5 : Int32).toNatClampNeg (some (a + 17)))))))) :: (body_X3 X (a + 2) ++ ((body_X3 X (a + 5) ++ ((body_X3 X (a + 8) ++ ((body_X3 X (a + 11) ++ ((body_X3 X (a + 14) ++ ((body_X3 X (a + 17) ++ ((body_X3 X (a + 20) ++ ([]))))))))))))))) Γ hl.1 hI (n := 20) rfl (c_X3_init l X (a + 20)) mfi_X3 hN (Or.inl ⟨_, List.mem_of_getElem? (i := 4) rfl⟩) rfl rfl ⟨Nat.le_of_ble_eq_true rfl, Nat.le_of_ble_eq_true rfl⟩ (Nat.le_of_ble_eq_true rfl) dX5_init_33 ⟨Nat.le_of_ble_eq_true rfl, Nat.le_of_ble_eq_true rfl⟩ rfl (fun H locs hI => ?_)
  refine k_astq Γ hI 1 20 3 3 (r := (RX3, TX3, 6)) rfl rfl rfl rfl (by unfold vp_in; decide) (tl' := (.inr (5, [.ref (a + 1), .int 0, .int 0])) :: (.inl (X.2.2.2.2.2, 9, .inr (.inr (.inr (.inr (va_up (va_up (va_up (va_up (va_up (va_up (va_up (fun _ => none) (0 : Int32).toNatClampNeg (some (a + 2))) (1 : Int32).toNatClampNeg (some (a + 5))) (2 : Int32).toNatClampNeg (some (a + 8))) (3 : Int32).toNatClampNeg (some (a + 11))) (4 : Int32).toNatClampNeg (some (a + 14))) (5 : Int32).toNatClampNeg (some (a + 17))) (6 : Int32).toNatClampNeg (some (a + 20)))))))) :: (body_X3 X (a + 2) ++ ((body_X3 X (a + 5) ++ ((body_X3 X (a + 8) ++ ((body_X3 X (a + 11) ++ ((body_X3 X (a + 14) ++ ((body_X3 X (a + 17) ++ ((body_X3 X (a + 20) ++ ([]))))))))))))))) rfl dX5_init_36 (fun H locs hI => ?_)
  refine lv_iinc (v := (7 : Int32)) (lv' := [(1, .int (7 : Int32)), (0, .ref a)]) Γ.1.1 Γ.1.2.1 dX5_init_37 hl (k := 0) rfl (by decide) (by decide) rfl (fun ls hl => ?_)
  refine lv_goto (tgt := 15) Γ.1.1 Γ.1.2.1 dX5_init_40 (by decide) ?_
  refine lv_iload_n Γ.1.1 Γ.1.2.1 dX5_init_15 rfl (lv_at hl 0 rfl) ?_
  refine lv_aload_n Γ.1.1 Γ.1.2.1 dX5_init_16 rfl (lv_at hl 1 rfl) ?_
  refine k_get Γ hI 0 rfl (C := RX5) (T := TX5) (N := 3) rfl inlX5 0 (by decide) gx_25 rfl dX5_init_17 ?_
  refine va_alen Γ.1.1 Γ.1.2.1 Γ.2.1 hI.1 1 3 (by rw [tlw_at]; rfl) rfl (v := (9 : Int32)) rfl dX5_init_20 ?_
  refine lv_icmp_ge (tgt := 43) Γ.1.1 Γ.1.2.1 dX5_init_21 (by decide) (fun c9 => ?_) (fun c9 => ?_)
  exact absurd c9 (by decide)
  clear c9
  refine lv_aload_n Γ.1.1 Γ.1.2.1 dX5_init_24 rfl (lv_at hl 1 rfl) ?_
  refine k_get Γ hI 0 rfl (C := RX5) (T := TX5) (N := 3) rfl inlX5 0 (by decide) gx_25 rfl dX5_init_25 ?_
  refine lv_iload_n Γ.1.1 Γ.1.2.1 dX5_init_28 rfl (lv_at hl 0 rfl) ?_
  refine k_new (ci := 3) (fs := [.null, .null, .int 0, .int 0, .int 0, .int 0]) (C := RX3) (T := TX3) (N := 6) Γ hI 23 rfl tyX3 tyX3_ok rfl inlX3 gx_24 gx_16 gx_13 (fun j hj => fs_X3 j hj) (Nat.le_of_ble_eq_true rfl) (Nat.le_of_ble_eq_true rfl) dX5_init_29 (fun H hI => ?_)
  refine lv_dup Γ.1.1 Γ.1.2.1 dX5_init_32 rfl ?_
  refine k_call (pre := (.inr (5, [.ref (a + 1), .int 0, .int 0])) :: (.inl (X.2.2.2.2.2, 9, .inr (.inr (.inr (.inr (va_up (va_up (va_up (va_up (va_up (va_up (va_up (fun _ => none) (0 : Int32).toNatClampNeg (some (a + 2))) (1 : Int32).toNatClampNeg (some (a + 5))) (2 : Int32).toNatClampNeg (some (a + 8))) (3 : Int32).toNatClampNeg (some (a + 11))) (4 : Int32).toNatClampNeg (some (a + 14))) (5 : Int32).toNatClampNeg (some (a + 17))) (6 : Int32).toNatClampNeg (some (a + 20)))))))) :: (body_X3 X (a + 2) ++ ((body_X3 X (a + 5) ++ ((body_X3 X (a + 8) ++ ((body_X3 X (a + 11) ++ ((body_X3 X (a + 14) ++ ((body_X3 X (a + 17) ++ ((body_X3 X (a + 20) ++ ([]))))))))))))))) (tl' := (.inr (5, [.ref (a + 1), .int 0, .int 0])) :: (.inl (X.2.2.2.2.2, 9, .inr (.inr (.inr (.inr (va_up (va_up (va_up (va_up (va_up (va_up (va_up (fun _ => none) (0 : Int32).toNatClampNeg (some (a + 2))) (1 : Int32).toNatClampNeg (some (a + 5))) (2 : Int32).toNatClampNeg (some (a + 8))) (3 : Int32).toNatClampNeg (some (a + 11))) (4 : Int32).toNatClampNeg (some (a + 14))) (5 : Int32).toNatClampNeg (some (a + 17))) (6 : Int32).toNatClampNeg (some (a + 20)))))))) :: (body_X3 X (a + 2) ++ ((body_X3 X (a + 5) ++ ((body_X3 X (a + 8) ++ ((body_X3 X (a + 11) ++ ((body_X3 X (a + 14) ++ ((body_X3 X (a + 17) ++ ((body_X3 X (a + 20) ++ ((body_X3 X (a + 23) ++ ([]))))))))))))))))) Γ hl.1 hI (n := 23) rfl (c_X3_init l X (a + 23)) mfi_X3 hN (Or.inl ⟨_, List.mem_of_getElem? (i := 4) rfl⟩) rfl rfl ⟨Nat.le_of_ble_eq_true rfl, Nat.le_of_ble_eq_true rfl⟩ (Nat.le_of_ble_eq_true rfl) dX5_init_33 ⟨Nat.le_of_ble_eq_true rfl, Nat.le_of_ble_eq_true rfl⟩ rfl (fun H locs hI => ?_)
  refine k_astq Γ hI 1 23 3 3 (r := (RX3, TX3, 6)) rfl rfl rfl rfl (by unfold vp_in; decide) (tl' := (.inr (5, [.ref (a + 1), .int 0, .int 0])) :: (.inl (X.2.2.2.2.2, 9, .inr (.inr (.inr (.inr (va_up (va_up (va_up (va_up (va_up (va_up (va_up (va_up (fun _ => none) (0 : Int32).toNatClampNeg (some (a + 2))) (1 : Int32).toNatClampNeg (some (a + 5))) (2 : Int32).toNatClampNeg (some (a + 8))) (3 : Int32).toNatClampNeg (some (a + 11))) (4 : Int32).toNatClampNeg (some (a + 14))) (5 : Int32).toNatClampNeg (some (a + 17))) (6 : Int32).toNatClampNeg (some (a + 20))) (7 : Int32).toNatClampNeg (some (a + 23)))))))) :: (body_X3 X (a + 2) ++ ((body_X3 X (a + 5) ++ ((body_X3 X (a + 8) ++ ((body_X3 X (a + 11) ++ ((body_X3 X (a + 14) ++ ((body_X3 X (a + 17) ++ ((body_X3 X (a + 20) ++ ((body_X3 X (a + 23) ++ ([]))))))))))))))))) rfl dX5_init_36 (fun H locs hI => ?_)
  refine lv_iinc (v := (8 : Int32)) (lv' := [(1, .int (8 : Int32)), (0, .ref a)]) Γ.1.1 Γ.1.2.1 dX5_init_37 hl (k := 0) rfl (by decide) (by decide) rfl (fun ls hl => ?_)
  refine lv_goto (tgt := 15) Γ.1.1 Γ.1.2.1 dX5_init_40 (by decide) ?_
  refine lv_iload_n Γ.1.1 Γ.1.2.1 dX5_init_15 rfl (lv_at hl 0 rfl) ?_
  refine lv_aload_n Γ.1.1 Γ.1.2.1 dX5_init_16 rfl (lv_at hl 1 rfl) ?_
  refine k_get Γ hI 0 rfl (C := RX5) (T := TX5) (N := 3) rfl inlX5 0 (by decide) gx_25 rfl dX5_init_17 ?_
  refine va_alen Γ.1.1 Γ.1.2.1 Γ.2.1 hI.1 1 3 (by rw [tlw_at]; rfl) rfl (v := (9 : Int32)) rfl dX5_init_20 ?_
  refine lv_icmp_ge (tgt := 43) Γ.1.1 Γ.1.2.1 dX5_init_21 (by decide) (fun c9 => ?_) (fun c9 => ?_)
  exact absurd c9 (by decide)
  clear c9
  refine lv_aload_n Γ.1.1 Γ.1.2.1 dX5_init_24 rfl (lv_at hl 1 rfl) ?_
  refine k_get Γ hI 0 rfl (C := RX5) (T := TX5) (N := 3) rfl inlX5 0 (by decide) gx_25 rfl dX5_init_25 ?_
  refine lv_iload_n Γ.1.1 Γ.1.2.1 dX5_init_28 rfl (lv_at hl 0 rfl) ?_
  refine k_new (ci := 3) (fs := [.null, .null, .int 0, .int 0, .int 0, .int 0]) (C := RX3) (T := TX3) (N := 6) Γ hI 26 rfl tyX3 tyX3_ok rfl inlX3 gx_24 gx_16 gx_13 (fun j hj => fs_X3 j hj) (Nat.le_of_ble_eq_true rfl) (Nat.le_of_ble_eq_true rfl) dX5_init_29 (fun H hI => ?_)
  refine lv_dup Γ.1.1 Γ.1.2.1 dX5_init_32 rfl ?_
  refine k_call (pre := (.inr (5, [.ref (a + 1), .int 0, .int 0])) :: (.inl (X.2.2.2.2.2, 9, .inr (.inr (.inr (.inr (va_up (va_up (va_up (va_up (va_up (va_up (va_up (va_up (fun _ => none) (0 : Int32).toNatClampNeg (some (a + 2))) (1 : Int32).toNatClampNeg (some (a + 5))) (2 : Int32).toNatClampNeg (some (a + 8))) (3 : Int32).toNatClampNeg (some (a + 11))) (4 : Int32).toNatClampNeg (some (a + 14))) (5 : Int32).toNatClampNeg (some (a + 17))) (6 : Int32).toNatClampNeg (some (a + 20))) (7 : Int32).toNatClampNeg (some (a + 23)))))))) :: (body_X3 X (a + 2) ++ ((body_X3 X (a + 5) ++ ((body_X3 X (a + 8) ++ ((body_X3 X (a + 11) ++ ((body_X3 X (a + 14) ++ ((body_X3 X (a + 17) ++ ((body_X3 X (a + 20) ++ ((body_X3 X (a + 23) ++ ([]))))))))))))))))) (tl' := (.inr (5, [.ref (a + 1), .int 0, .int 0])) :: (.inl (X.2.2.2.2.2, 9, .inr (.inr (.inr (.inr (va_up (va_up (va_up (va_up (va_up (va_up (va_up (va_up (fun _ => none) (0 : Int32).toNatClampNeg (some (a + 2))) (1 : Int32).toNatClampNeg (some (a + 5))) (2 : Int32).toNatClampNeg (some (a + 8))) (3 : Int32).toNatClampNeg (some (a + 11))) (4 : Int32).toNatClampNeg (some (a + 14))) (5 : Int32).toNatClampNeg (some (a + 17))) (6 : Int32).toNatClampNeg (some (a + 20))) (7 : Int32).toNatClampNeg (some (a + 23)))))))) :: (body_X3 X (a + 2) ++ ((body_X3 X (a + 5) ++ ((body_X3 X (a + 8) ++ ((body_X3 X (a + 11) ++ ((body_X3 X (a + 14) ++ ((body_X3 X (a + 17) ++ ((body_X3 X (a + 20) ++ ((body_X3 X (a + 23) ++ ((body_X3 X (a + 26) ++ ([]))))))))))))))))))) Γ hl.1 hI (n := 26) rfl (c_X3_init l X (a + 26)) mfi_X3 hN (Or.inl ⟨_, List.mem_of_getElem? (i := 4) rfl⟩) rfl rfl ⟨Nat.le_of_ble_eq_true rfl, Nat.le_of_ble_eq_true rfl⟩ (Nat.le_of_ble_eq_true rfl) dX5_init_33 ⟨Nat.le_of_ble_eq_true rfl, Nat.le_of_ble_eq_true rfl⟩ rfl (fun H locs hI => ?_)
  refine k_astq Γ hI 1 26 3 3 (r := (RX3, TX3, 6)) rfl rfl rfl rfl (by unfold vp_in; decide) (tl' := (.inr (5, [.ref (a + 1), .int 0, .int 0])) :: (.inl (X.2.2.2.2.2, 9, .inr (.inr (.inr (.inr (va_up (va_up (va_up (va_up (va_up (va_up (va_up (va_up (va_up (fun _ => none) (0 : Int32).toNatClampNeg (some (a + 2))) (1 : Int32).toNatClampNeg (some (a + 5))) (2 : Int32).toNatClampNeg (some (a + 8))) (3 : Int32).toNatClampNeg (some (a + 11))) (4 : Int32).toNatClampNeg (some (a + 14))) (5 : Int32).toNatClampNeg (some (a + 17))) (6 : Int32).toNatClampNeg (some (a + 20))) (7 : Int32).toNatClampNeg (some (a + 23))) (8 : Int32).toNatClampNeg (some (a + 26)))))))) :: (body_X3 X (a + 2) ++ ((body_X3 X (a + 5) ++ ((body_X3 X (a + 8) ++ ((body_X3 X (a + 11) ++ ((body_X3 X (a + 14) ++ ((body_X3 X (a + 17) ++ ((body_X3 X (a + 20) ++ ((body_X3 X (a + 23) ++ ((body_X3 X (a + 26) ++ ([]))))))))))))))))))) rfl dX5_init_36 (fun H locs hI => ?_)
  refine lv_iinc (v := (9 : Int32)) (lv' := [(1, .int (9 : Int32)), (0, .ref a)]) Γ.1.1 Γ.1.2.1 dX5_init_37 hl (k := 0) rfl (by decide) (by decide) rfl (fun ls hl => ?_)
  refine lv_goto (tgt := 15) Γ.1.1 Γ.1.2.1 dX5_init_40 (by decide) ?_
  refine lv_iload_n Γ.1.1 Γ.1.2.1 dX5_init_15 rfl (lv_at hl 0 rfl) ?_
  refine lv_aload_n Γ.1.1 Γ.1.2.1 dX5_init_16 rfl (lv_at hl 1 rfl) ?_
  refine k_get Γ hI 0 rfl (C := RX5) (T := TX5) (N := 3) rfl inlX5 0 (by decide) gx_25 rfl dX5_init_17 ?_
  refine va_alen Γ.1.1 Γ.1.2.1 Γ.2.1 hI.1 1 3 (by rw [tlw_at]; rfl) rfl (v := (9 : Int32)) rfl dX5_init_20 ?_
  refine lv_icmp_ge (tgt := 43) Γ.1.1 Γ.1.2.1 dX5_init_21 (by decide) (fun c9 => ?_) (fun c9 => ?_)
  rotate_left; exact absurd (by decide) c9
  clear c9
  exact k_vret Γ hI dX5_init_43
theorem fs_X2 : ∀ j, j < 2 → defaultValue (tyX2 j) = vp_V [.null, .int 0] j := lt_s (lt_s (lt_0) rfl) rfl
theorem mfi_X2 : mfI yX2_init cX2_init 1 := ⟨⟨gx_32, gx_33, gx_34⟩, rfl, by decide +kernel, by decide +kernel, by decide +kernel⟩
/-- the cells behind RingCutters$Kept() -/
def body_X2 (X : GX) (a : Nat) : List va_E := (.inr (2, [.ref (a + 1), .int 0])) :: (body_X3 X (a + 1) ++ ([]))
set_option maxRecDepth 20000 in
set_option maxHeartbeats 4000000 in
theorem c_X2_init (l : Launch) (X : GX) (a : Nat) : kMet l yX2_init cX2_init 1 ({ frames := 2, cells := 3, slots := 162, locals := 40 } : Room) X a (.inr (2, [.null, .int 0])) (body_X2 X a) 3 162 := by
  refine kMet_of (own := RX2) (by decide) rfl rfl (Nat.le_of_ble_eq_true rfl) (fun p e s m below meth c H ls Γ hname hN hI hl => ?_)
  refine lv_aload_n Γ.1.1 Γ.1.2.1 dX2_init_0 rfl (lv_at hl 0 rfl) ?_
  refine k_obj Γ hl.1 gx_29 gx_1 gx_2 dX2_init_1 (Nat.le_of_ble_eq_true rfl) (Nat.le_of_ble_eq_true rfl) ?_
  refine lv_aload_n Γ.1.1 Γ.1.2.1 dX2_init_4 rfl (lv_at hl 0 rfl) ?_
  refine k_new (ci := 3) (fs := [.null, .null, .int 0, .int 0, .int 0, .int 0]) (C := RX3) (T := TX3) (N := 6) Γ hI 1 rfl tyX3 tyX3_ok rfl inlX3 gx_30 gx_16 gx_13 (fun j hj => fs_X3 j hj) (Nat.le_of_ble_eq_true rfl) (Nat.le_of_ble_eq_true rfl) dX2_init_5 (fun H hI => ?_)
  refine lv_dup Γ.1.1 Γ.1.2.1 dX2_init_8 rfl ?_
  refine k_call (pre := (.inr (2, [.null, .int 0])) :: []) (tl' := (.inr (2, [.null, .int 0])) :: (body_X3 X (a + 1) ++ ([]))) Γ hl.1 hI (n := 1) rfl (c_X3_init l X (a + 1)) mfi_X3 hN (Or.inl ⟨_, List.mem_of_getElem? (i := 6) rfl⟩) rfl rfl ⟨Nat.le_of_ble_eq_true rfl, Nat.le_of_ble_eq_true rfl⟩ (Nat.le_of_ble_eq_true rfl) dX2_init_9 ⟨Nat.le_of_ble_eq_true rfl, Nat.le_of_ble_eq_true rfl⟩ rfl (fun H locs hI => ?_)
  refine k_putF Γ hname hI 0 rfl (C := RX2) (T := TX2) (N := 2) tyX2 tyX2_ok nmX2 rfl inlX2 0 (by decide) gx_31 rfl rfl (ty := .object "RingCutters$Net") (by decide +kernel) rfl rfl (Nat.le_of_ble_eq_true rfl) (tl' := (.inr (2, [.ref (a + 1), .int 0])) :: (body_X3 X (a + 1) ++ ([]))) rfl dX2_init_12 (fun H locs hI => ?_)
  exact k_vret Γ hI dX2_init_15
theorem fs_X1 : ∀ j, j < 1 → defaultValue (tyX1 j) = vp_V [.int 0] j := lt_s (lt_0) rfl
theorem mfi_X1 : mfI yX1_init cX1_init 1 := ⟨⟨gx_36, gx_37, gx_38⟩, rfl, by decide +kernel, by decide +kernel, by decide +kernel⟩
/-- the cells behind RingCutters$Draws() -/
def body_X1 (X : GX) (a : Nat) : List va_E := (.inr (1, [.int 0])) :: []
set_option maxRecDepth 20000 in
set_option maxHeartbeats 4000000 in
theorem c_X1_init (l : Launch) (X : GX) (a : Nat) : kMet l yX1_init cX1_init 1 ({ frames := 1, cells := 0, slots := 0, locals := 20 } : Room) X a (.inr (1, [.int 0])) (body_X1 X a) 0 0 := by
  refine kMet_of (own := RX1) (by decide) rfl rfl (Nat.le_of_ble_eq_true rfl) (fun p e s m below meth c H ls Γ hname hN hI hl => ?_)
  refine lv_aload_n Γ.1.1 Γ.1.2.1 dX1_init_0 rfl (lv_at hl 0 rfl) ?_
  refine k_obj Γ hl.1 gx_35 gx_1 gx_2 dX1_init_1 (Nat.le_of_ble_eq_true rfl) (Nat.le_of_ble_eq_true rfl) ?_
  exact k_vret Γ hI dX1_init_4
theorem fs_X8 : ∀ j, j < 6 → defaultValue (tyX8 j) = vp_V [.null, .null, .null, .null, .null, .int 0] j := lt_s (lt_s (lt_s (lt_s (lt_s (lt_s (lt_0) rfl) rfl) rfl) rfl) rfl) rfl
theorem mfi_X8 : mfI yX8_init cX8_init 1 := ⟨⟨gx_46, gx_47, gx_48⟩, rfl, by decide +kernel, by decide +kernel, by decide +kernel⟩
/-- the cells behind RingCutters$Rings() -/
def body_X8 (X : GX) (a : Nat) : List va_E := (.inr (7, [.ref (a + 1), .ref (a + 2), .ref (a + 3), .ref (a + 4), .ref (a + 5), .int 0])) :: (.inl (X.2.2.2.2.1, 4096, .inl (fun _ => 0))) :: (.inl (X.2.2.1, 12, .inl (fun _ => 0))) :: (.inl (X.2.2.1, 12, .inl (fun _ => 0))) :: (.inl (X.2.2.1, 924, .inl (fun _ => 0))) :: (.inl (X.2.2.1, 12, .inl (fun _ => 0))) :: []
set_option maxRecDepth 20000 in
set_option maxHeartbeats 4000000 in
theorem c_X8_init (l : Launch) (X : GX) (a : Nat) : kMet l yX8_init cX8_init 1 ({ frames := 1, cells := 5, slots := 5056, locals := 20 } : Room) X a (.inr (7, [.null, .null, .null, .null, .null, .int 0])) (body_X8 X a) 5 5056 := by
  refine kMet_of (own := RX8) (by decide) rfl rfl (Nat.le_of_ble_eq_true rfl) (fun p e s m below meth c H ls Γ hname hN hI hl => ?_)
  refine lv_aload_n Γ.1.1 Γ.1.2.1 dX8_init_0 rfl (lv_at hl 0 rfl) ?_
  refine k_obj Γ hl.1 gx_39 gx_1 gx_2 dX8_init_1 (Nat.le_of_ble_eq_true rfl) (Nat.le_of_ble_eq_true rfl) ?_
  refine lv_aload_n Γ.1.1 Γ.1.2.1 dX8_init_4 rfl (lv_at hl 0 rfl) ?_
  refine lv_sipush (v := (4096 : Int32)) Γ.1.1 Γ.1.2.1 dX8_init_5 (by decide) ?_
  refine k_newa (x := .inl (X.2.2.2.2.1, 4096, .inl (fun _ => 0))) Γ hI 1 rfl (ty := .boolean) rfl gx_40 (N := 4096) (Γ.2.1.2 2 _ rfl).2 rfl (vp_cell_i _ _ _) (by decide) (by decide) (Nat.le_of_ble_eq_true rfl) (Nat.le_of_ble_eq_true rfl) (Nat.le_of_ble_eq_true rfl) dX8_init_8 (fun H hI => ?_)
  refine k_putF Γ hname hI 0 rfl (C := RX8) (T := TX8) (N := 6) tyX8 tyX8_ok nmX8 rfl inlX8 0 (by decide) gx_41 rfl rfl (ty := .array .boolean) (by decide +kernel) rfl rfl (Nat.le_of_ble_eq_true rfl) (tl' := (.inr (7, [.ref (a + 1), .null, .null, .null, .null, .int 0])) :: (.inl (X.2.2.2.2.1, 4096, .inl (fun _ => 0))) :: []) rfl dX8_init_10 (fun H locs hI => ?_)
  refine lv_aload_n Γ.1.1 Γ.1.2.1 dX8_init_13 rfl (lv_at hl 0 rfl) ?_
  refine lv_bipush (v := (12 : Int32)) Γ.1.1 Γ.1.2.1 dX8_init_14 (by decide) ?_
  refine k_newa (x := .inl (X.2.2.1, 12, .inl (fun _ => 0))) Γ hI 2 rfl (ty := .int) rfl gx_3 (N := 12) (Γ.2.1.2 0 _ rfl).2 rfl (vp_cell_i _ _ _) (by decide) (by decide) (Nat.le_of_ble_eq_true rfl) (Nat.le_of_ble_eq_true rfl) (Nat.le_of_ble_eq_true rfl) dX8_init_16 (fun H hI => ?_)
  refine k_putF Γ hname hI 0 rfl (C := RX8) (T := TX8) (N := 6) tyX8 tyX8_ok nmX8 rfl inlX8 1 (by decide) gx_42 rfl rfl (ty := .array .int) (by decide +kernel) rfl rfl (Nat.le_of_ble_eq_true rfl) (tl' := (.inr (7, [.ref (a + 1), .ref (a + 2), .null, .null, .null, .int 0])) :: (.inl (X.2.2.2.2.1, 4096, .inl (fun _ => 0))) :: (.inl (X.2.2.1, 12, .inl (fun _ => 0))) :: []) rfl dX8_init_18 (fun H locs hI => ?_)
  refine lv_aload_n Γ.1.1 Γ.1.2.1 dX8_init_21 rfl (lv_at hl 0 rfl) ?_
  refine lv_bipush (v := (12 : Int32)) Γ.1.1 Γ.1.2.1 dX8_init_22 (by decide) ?_
  refine k_newa (x := .inl (X.2.2.1, 12, .inl (fun _ => 0))) Γ hI 3 rfl (ty := .int) rfl gx_3 (N := 12) (Γ.2.1.2 0 _ rfl).2 rfl (vp_cell_i _ _ _) (by decide) (by decide) (Nat.le_of_ble_eq_true rfl) (Nat.le_of_ble_eq_true rfl) (Nat.le_of_ble_eq_true rfl) dX8_init_24 (fun H hI => ?_)
  refine k_putF Γ hname hI 0 rfl (C := RX8) (T := TX8) (N := 6) tyX8 tyX8_ok nmX8 rfl inlX8 2 (by decide) gx_43 rfl rfl (ty := .array .int) (by decide +kernel) rfl rfl (Nat.le_of_ble_eq_true rfl) (tl' := (.inr (7, [.ref (a + 1), .ref (a + 2), .ref (a + 3), .null, .null, .int 0])) :: (.inl (X.2.2.2.2.1, 4096, .inl (fun _ => 0))) :: (.inl (X.2.2.1, 12, .inl (fun _ => 0))) :: (.inl (X.2.2.1, 12, .inl (fun _ => 0))) :: []) rfl dX8_init_26 (fun H locs hI => ?_)
  refine lv_aload_n Γ.1.1 Γ.1.2.1 dX8_init_29 rfl (lv_at hl 0 rfl) ?_
  refine lv_sipush (v := (924 : Int32)) Γ.1.1 Γ.1.2.1 dX8_init_30 (by decide) ?_
  refine k_newa (x := .inl (X.2.2.1, 924, .inl (fun _ => 0))) Γ hI 4 rfl (ty := .int) rfl gx_3 (N := 924) (Γ.2.1.2 0 _ rfl).2 rfl (vp_cell_i _ _ _) (by decide) (by decide) (Nat.le_of_ble_eq_true rfl) (Nat.le_of_ble_eq_true rfl) (Nat.le_of_ble_eq_true rfl) dX8_init_33 (fun H hI => ?_)
  refine k_putF Γ hname hI 0 rfl (C := RX8) (T := TX8) (N := 6) tyX8 tyX8_ok nmX8 rfl inlX8 3 (by decide) gx_44 rfl rfl (ty := .array .int) (by decide +kernel) rfl rfl (Nat.le_of_ble_eq_true rfl) (tl' := (.inr (7, [.ref (a + 1), .ref (a + 2), .ref (a + 3), .ref (a + 4), .null, .int 0])) :: (.inl (X.2.2.2.2.1, 4096, .inl (fun _ => 0))) :: (.inl (X.2.2.1, 12, .inl (fun _ => 0))) :: (.inl (X.2.2.1, 12, .inl (fun _ => 0))) :: (.inl (X.2.2.1, 924, .inl (fun _ => 0))) :: []) rfl dX8_init_35 (fun H locs hI => ?_)
  refine lv_aload_n Γ.1.1 Γ.1.2.1 dX8_init_38 rfl (lv_at hl 0 rfl) ?_
  refine lv_bipush (v := (12 : Int32)) Γ.1.1 Γ.1.2.1 dX8_init_39 (by decide) ?_
  refine k_newa (x := .inl (X.2.2.1, 12, .inl (fun _ => 0))) Γ hI 5 rfl (ty := .int) rfl gx_3 (N := 12) (Γ.2.1.2 0 _ rfl).2 rfl (vp_cell_i _ _ _) (by decide) (by decide) (Nat.le_of_ble_eq_true rfl) (Nat.le_of_ble_eq_true rfl) (Nat.le_of_ble_eq_true rfl) dX8_init_41 (fun H hI => ?_)
  refine k_putF Γ hname hI 0 rfl (C := RX8) (T := TX8) (N := 6) tyX8 tyX8_ok nmX8 rfl inlX8 4 (by decide) gx_45 rfl rfl (ty := .array .int) (by decide +kernel) rfl rfl (Nat.le_of_ble_eq_true rfl) (tl' := (.inr (7, [.ref (a + 1), .ref (a + 2), .ref (a + 3), .ref (a + 4), .ref (a + 5), .int 0])) :: (.inl (X.2.2.2.2.1, 4096, .inl (fun _ => 0))) :: (.inl (X.2.2.1, 12, .inl (fun _ => 0))) :: (.inl (X.2.2.1, 12, .inl (fun _ => 0))) :: (.inl (X.2.2.1, 924, .inl (fun _ => 0))) :: (.inl (X.2.2.1, 12, .inl (fun _ => 0))) :: []) rfl dX8_init_43 (fun H locs hI => ?_)
  exact k_vret Γ hI dX8_init_46
theorem fs_X4 : ∀ j, j < 1 → defaultValue (tyX4 j) = vp_V [.null] j := lt_s (lt_0) rfl
theorem mfi_X4 : mfI yX4_init cX4_init 1 := ⟨⟨gx_51, gx_52, gx_53⟩, rfl, by decide +kernel, by decide +kernel, by decide +kernel⟩
/-- the cells behind RingCutters$Packing() -/
def body_X4 (X : GX) (a : Nat) : List va_E := (.inr (4, [.ref (a + 1)])) :: (.inl (X.2.2.1, 4096, .inl (fun _ => 0))) :: []
set_option maxRecDepth 20000 in
set_option maxHeartbeats 4000000 in
theorem c_X4_init (l : Launch) (X : GX) (a : Nat) : kMet l yX4_init cX4_init 1 ({ frames := 1, cells := 1, slots := 4096, locals := 20 } : Room) X a (.inr (4, [.null])) (body_X4 X a) 1 4096 := by
  refine kMet_of (own := RX4) (by decide) rfl rfl (Nat.le_of_ble_eq_true rfl) (fun p e s m below meth c H ls Γ hname hN hI hl => ?_)
  refine lv_aload_n Γ.1.1 Γ.1.2.1 dX4_init_0 rfl (lv_at hl 0 rfl) ?_
  refine k_obj Γ hl.1 gx_49 gx_1 gx_2 dX4_init_1 (Nat.le_of_ble_eq_true rfl) (Nat.le_of_ble_eq_true rfl) ?_
  refine lv_aload_n Γ.1.1 Γ.1.2.1 dX4_init_4 rfl (lv_at hl 0 rfl) ?_
  refine lv_sipush (v := (4096 : Int32)) Γ.1.1 Γ.1.2.1 dX4_init_5 (by decide) ?_
  refine k_newa (x := .inl (X.2.2.1, 4096, .inl (fun _ => 0))) Γ hI 1 rfl (ty := .int) rfl gx_3 (N := 4096) (Γ.2.1.2 0 _ rfl).2 rfl (vp_cell_i _ _ _) (by decide) (by decide) (Nat.le_of_ble_eq_true rfl) (Nat.le_of_ble_eq_true rfl) (Nat.le_of_ble_eq_true rfl) dX4_init_8 (fun H hI => ?_)
  refine k_putF Γ hname hI 0 rfl (C := RX4) (T := TX4) (N := 1) tyX4 tyX4_ok nmX4 rfl inlX4 0 (by decide) gx_50 rfl rfl (ty := .array .int) (by decide +kernel) rfl rfl (Nat.le_of_ble_eq_true rfl) (tl' := (.inr (4, [.ref (a + 1)])) :: (.inl (X.2.2.1, 4096, .inl (fun _ => 0))) :: []) rfl dX4_init_10 (fun H locs hI => ?_)
  exact k_vret Γ hI dX4_init_13
theorem fs_X0 : ∀ j, j < 7 → defaultValue (tyX0 j) = vp_V [.null, .null, .int 0, .int 0, .int 0, .long 0, .long 0] j := lt_s (lt_s (lt_s (lt_s (lt_s (lt_s (lt_s (lt_0) rfl) rfl) rfl) rfl) rfl) rfl) rfl
theorem mfi_X0 : mfI yX0_init cX0_init 1 := ⟨⟨gx_57, gx_58, gx_59⟩, rfl, by decide +kernel, by decide +kernel, by decide +kernel⟩
/-- the cells behind RingCutters$Discount() -/
def body_X0 (X : GX) (a : Nat) : List va_E := (.inr (0, [.ref (a + 1), .ref (a + 2), .int 0, .int 0, .int 0, .long 0, .long 0])) :: (.inl (X.2.2.2.1, 12, .inr (.inl (fun _ => 0)))) :: (.inl (X.2.2.1, 12, .inl (fun _ => 0))) :: []
set_option maxRecDepth 20000 in
set_option maxHeartbeats 4000000 in
theorem c_X0_init (l : Launch) (X : GX) (a : Nat) : kMet l yX0_init cX0_init 1 ({ frames := 1, cells := 2, slots := 24, locals := 20 } : Room) X a (.inr (0, [.null, .null, .int 0, .int 0, .int 0, .long 0, .long 0])) (body_X0 X a) 2 24 := by
  refine kMet_of (own := RX0) (by decide) rfl rfl (Nat.le_of_ble_eq_true rfl) (fun p e s m below meth c H ls Γ hname hN hI hl => ?_)
  refine lv_aload_n Γ.1.1 Γ.1.2.1 dX0_init_0 rfl (lv_at hl 0 rfl) ?_
  refine k_obj Γ hl.1 gx_54 gx_1 gx_2 dX0_init_1 (Nat.le_of_ble_eq_true rfl) (Nat.le_of_ble_eq_true rfl) ?_
  refine lv_aload_n Γ.1.1 Γ.1.2.1 dX0_init_4 rfl (lv_at hl 0 rfl) ?_
  refine lv_bipush (v := (12 : Int32)) Γ.1.1 Γ.1.2.1 dX0_init_5 (by decide) ?_
  refine k_newa (x := .inl (X.2.2.2.1, 12, .inr (.inl (fun _ => 0)))) Γ hI 1 rfl (ty := .long) rfl gx_18 (N := 12) (Γ.2.1.2 1 _ rfl).2 rfl (vp_cell_l _ _ _) (by decide) (by decide) (Nat.le_of_ble_eq_true rfl) (Nat.le_of_ble_eq_true rfl) (Nat.le_of_ble_eq_true rfl) dX0_init_7 (fun H hI => ?_)
  refine k_putF Γ hname hI 0 rfl (C := RX0) (T := TX0) (N := 7) tyX0 tyX0_ok nmX0 rfl inlX0 0 (by decide) gx_55 rfl rfl (ty := .array .long) (by decide +kernel) rfl rfl (Nat.le_of_ble_eq_true rfl) (tl' := (.inr (0, [.ref (a + 1), .null, .int 0, .int 0, .int 0, .long 0, .long 0])) :: (.inl (X.2.2.2.1, 12, .inr (.inl (fun _ => 0)))) :: []) rfl dX0_init_9 (fun H locs hI => ?_)
  refine lv_aload_n Γ.1.1 Γ.1.2.1 dX0_init_12 rfl (lv_at hl 0 rfl) ?_
  refine lv_bipush (v := (12 : Int32)) Γ.1.1 Γ.1.2.1 dX0_init_13 (by decide) ?_
  refine k_newa (x := .inl (X.2.2.1, 12, .inl (fun _ => 0))) Γ hI 2 rfl (ty := .int) rfl gx_3 (N := 12) (Γ.2.1.2 0 _ rfl).2 rfl (vp_cell_i _ _ _) (by decide) (by decide) (Nat.le_of_ble_eq_true rfl) (Nat.le_of_ble_eq_true rfl) (Nat.le_of_ble_eq_true rfl) dX0_init_15 (fun H hI => ?_)
  refine k_putF Γ hname hI 0 rfl (C := RX0) (T := TX0) (N := 7) tyX0 tyX0_ok nmX0 rfl inlX0 1 (by decide) gx_56 rfl rfl (ty := .array .int) (by decide +kernel) rfl rfl (Nat.le_of_ble_eq_true rfl) (tl' := (.inr (0, [.ref (a + 1), .ref (a + 2), .int 0, .int 0, .int 0, .long 0, .long 0])) :: (.inl (X.2.2.2.1, 12, .inr (.inl (fun _ => 0)))) :: (.inl (X.2.2.1, 12, .inl (fun _ => 0))) :: []) rfl dX0_init_17 (fun H locs hI => ?_)
  exact k_vret Γ hI dX0_init_20
theorem fs_X11 : ∀ j, j < 14 → defaultValue (tyX11 j) = vp_V [.null, .null, .null, .null, .null, .null, .null, .null, .null, .null, .int 0, .int 0, .int 0, .int 0] j := lt_s (lt_s (lt_s (lt_s (lt_s (lt_s (lt_s (lt_s (lt_s (lt_s (lt_s (lt_s (lt_s (lt_s (lt_0) rfl) rfl) rfl) rfl) rfl) rfl) rfl) rfl) rfl) rfl) rfl) rfl) rfl) rfl
theorem mfi_X11 : mfI yX11_init cX11_init 1 := ⟨⟨gx_92, gx_93, gx_94⟩, rfl, by decide +kernel, by decide +kernel, by decide +kernel⟩
/-- the cells behind RingCutters() -/
def body_X11 (X : GX) (a : Nat) : List va_E := (.inr (9, [.ref (a + 1), .ref (a + 3), .ref (a + 8), .ref (a + 11), .ref (a + 40), .ref (a + 44), .ref (a + 48), .ref (a + 49), .ref (a + 55), .ref (a + 57), .int 0, .int (1 : Int32), .int (1 : Int32), .int (1 : Int32)])) :: (body_X10 X (a + 1) ++ ((body_X6 X (a + 3) ++ ((body_X3 X (a + 8) ++ ((body_X5 X (a + 11) ++ ((body_X2 X (a + 40) ++ ((body_X2 X (a + 44) ++ ((body_X1 X (a + 48) ++ ((body_X8 X (a + 49) ++ ((body_X4 X (a + 55) ++ ((body_X0 X (a + 57) ++ ([]))))))))))))))))))))
set_option maxRecDepth 20000 in
set_option maxHeartbeats 4000000 in
theorem c_X11_init (l : Launch) (X : GX) (a : Nat) : kMet l yX11_init cX11_init 1 ({ frames := 3, cells := 59, slots := 11976, locals := 61 } : Room) X a (.inr (9, [.null, .null, .null, .null, .null, .null, .null, .null, .null, .null, .int 0, .int 0, .int 0, .int 0])) (body_X11 X a) 59 11976 := by
  refine kMet_of (own := RX11) (by decide) rfl rfl (Nat.le_of_ble_eq_true rfl) (fun p e s m below meth c H ls Γ hname hN hI hl => ?_)
  refine lv_aload_n Γ.1.1 Γ.1.2.1 dX11_init_0 rfl (lv_at hl 0 rfl) ?_
  refine k_obj Γ hl.1 gx_60 gx_1 gx_2 dX11_init_1 (Nat.le_of_ble_eq_true rfl) (Nat.le_of_ble_eq_true rfl) ?_
  refine lv_aload_n Γ.1.1 Γ.1.2.1 dX11_init_4 rfl (lv_at hl 0 rfl) ?_
  refine k_new (ci := 8) (fs := [.null, .int 0]) (C := RX10) (T := TX10) (N := 2) Γ hI 1 rfl tyX10 tyX10_ok rfl inlX10 gx_61 gx_62 gx_7 (fun j hj => fs_X10 j hj) (Nat.le_of_ble_eq_true rfl) (Nat.le_of_ble_eq_true rfl) dX11_init_5 (fun H hI => ?_)
  refine lv_dup Γ.1.1 Γ.1.2.1 dX11_init_8 rfl ?_
  refine k_call (pre := (.inr (9, [.null, .null, .null, .null, .null, .null, .null, .null, .null, .null, .int 0, .int 0, .int 0, .int 0])) :: []) (tl' := (.inr (9, [.null, .null, .null, .null, .null, .null, .null, .null, .null, .null, .int 0, .int 0, .int 0, .int 0])) :: (body_X10 X (a + 1) ++ ([]))) Γ hl.1 hI (n := 1) rfl (c_X10_init l X (a + 1)) mfi_X10 hN (Or.inl ⟨_, List.mem_of_getElem? (i := 0) rfl⟩) rfl rfl ⟨Nat.le_of_ble_eq_true rfl, Nat.le_of_ble_eq_true rfl⟩ (Nat.le_of_ble_eq_true rfl) dX11_init_9 ⟨Nat.le_of_ble_eq_true rfl, Nat.le_of_ble_eq_true rfl⟩ rfl (fun H locs hI => ?_)
  refine k_putF Γ hname hI 0 rfl (C := RX11) (T := TX11) (N := 14) tyX11 tyX11_ok nmX11 rfl inlX11 0 (by decide) gx_63 rfl rfl (ty := .object "RingCutters$Tape") (by decide +kernel) rfl rfl (Nat.le_of_ble_eq_true rfl) (tl' := (.inr (9, [.ref (a + 1), .null, .null, .null, .null, .null, .null, .null, .null, .null, .int 0, .int 0, .int 0, .int 0])) :: (body_X10 X (a + 1) ++ ([]))) rfl dX11_init_12 (fun H locs hI => ?_)
  refine lv_aload_n Γ.1.1 Γ.1.2.1 dX11_init_15 rfl (lv_at hl 0 rfl) ?_
  refine k_new (ci := 6) (fs := [.null, .null, .int 0, .int 0, .int 0, .int 0, .int 0, .long 0, .int 0]) (C := RX6) (T := TX6) (N := 9) Γ hI 3 rfl tyX6 tyX6_ok rfl inlX6 gx_64 gx_65 gx_22 (fun j hj => fs_X6 j hj) (Nat.le_of_ble_eq_true rfl) (Nat.le_of_ble_eq_true rfl) dX11_init_16 (fun H hI => ?_)
  refine lv_dup Γ.1.1 Γ.1.2.1 dX11_init_19 rfl ?_
  refine k_call (pre := (.inr (9, [.ref (a + 1), .null, .null, .null, .null, .null, .null, .null, .null, .null, .int 0, .int 0, .int 0, .int 0])) :: (body_X10 X (a + 1) ++ ([]))) (tl' := (.inr (9, [.ref (a + 1), .null, .null, .null, .null, .null, .null, .null, .null, .null, .int 0, .int 0, .int 0, .int 0])) :: (body_X10 X (a + 1) ++ ((body_X6 X (a + 3) ++ ([]))))) Γ hl.1 hI (n := 3) rfl (c_X6_init l X (a + 3)) mfi_X6 hN (Or.inl ⟨_, List.mem_of_getElem? (i := 1) rfl⟩) rfl rfl ⟨Nat.le_of_ble_eq_true rfl, Nat.le_of_ble_eq_true rfl⟩ (Nat.le_of_ble_eq_true rfl) dX11_init_20 ⟨Nat.le_of_ble_eq_true rfl, Nat.le_of_ble_eq_true rfl⟩ rfl (fun H locs hI => ?_)
  refine k_putF Γ hname hI 0 rfl (C := RX11) (T := TX11) (N := 14) tyX11 tyX11_ok nmX11 rfl inlX11 1 (by decide) gx_66 rfl rfl (ty := .object "RingCutters$Reader") (by decide +kernel) rfl rfl (Nat.le_of_ble_eq_true rfl) (tl' := (.inr (9, [.ref (a + 1), .ref (a + 3), .null, .null, .null, .null, .null, .null, .null, .null, .int 0, .int 0, .int 0, .int 0])) :: (body_X10 X (a + 1) ++ ((body_X6 X (a + 3) ++ ([]))))) rfl dX11_init_23 (fun H locs hI => ?_)
  refine lv_aload_n Γ.1.1 Γ.1.2.1 dX11_init_26 rfl (lv_at hl 0 rfl) ?_
  refine k_new (ci := 3) (fs := [.null, .null, .int 0, .int 0, .int 0, .int 0]) (C := RX3) (T := TX3) (N := 6) Γ hI 8 rfl tyX3 tyX3_ok rfl inlX3 gx_67 gx_16 gx_13 (fun j hj => fs_X3 j hj) (Nat.le_of_ble_eq_true rfl) (Nat.le_of_ble_eq_true rfl) dX11_init_27 (fun H hI => ?_)
  refine lv_dup Γ.1.1 Γ.1.2.1 dX11_init_30 rfl ?_
  refine k_call (pre := (.inr (9, [.ref (a + 1), .ref (a + 3), .null, .null, .null, .null, .null, .null, .null, .null, .int 0, .int 0, .int 0, .int 0])) :: (body_X10 X (a + 1) ++ ((body_X6 X (a + 3) ++ ([]))))) (tl' := (.inr (9, [.ref (a + 1), .ref (a + 3), .null, .null, .null, .null, .null, .null, .null, .null, .int 0, .int 0, .int 0, .int 0])) :: (body_X10 X (a + 1) ++ ((body_X6 X (a + 3) ++ ((body_X3 X (a + 8) ++ ([]))))))) Γ hl.1 hI (n := 8) rfl (c_X3_init l X (a + 8)) mfi_X3 hN (Or.inl ⟨_, List.mem_of_getElem? (i := 3) rfl⟩) rfl rfl ⟨Nat.le_of_ble_eq_true rfl, Nat.le_of_ble_eq_true rfl⟩ (Nat.le_of_ble_eq_true rfl) dX11_init_31 ⟨Nat.le_of_ble_eq_true rfl, Nat.le_of_ble_eq_true rfl⟩ rfl (fun H locs hI => ?_)
  refine k_putF Γ hname hI 0 rfl (C := RX11) (T := TX11) (N := 14) tyX11 tyX11_ok nmX11 rfl inlX11 2 (by decide) gx_68 rfl rfl (ty := .object "RingCutters$Net") (by decide +kernel) rfl rfl (Nat.le_of_ble_eq_true rfl) (tl' := (.inr (9, [.ref (a + 1), .ref (a + 3), .ref (a + 8), .null, .null, .null, .null, .null, .null, .null, .int 0, .int 0, .int 0, .int 0])) :: (body_X10 X (a + 1) ++ ((body_X6 X (a + 3) ++ ((body_X3 X (a + 8) ++ ([]))))))) rfl dX11_init_34 (fun H locs hI => ?_)
  refine lv_aload_n Γ.1.1 Γ.1.2.1 dX11_init_37 rfl (lv_at hl 0 rfl) ?_
  refine k_new (ci := 5) (fs := [.null, .int 0, .int 0]) (C := RX5) (T := TX5) (N := 3) Γ hI 11 rfl tyX5 tyX5_ok rfl inlX5 gx_69 gx_70 gx_28 (fun j hj => fs_X5 j hj) (Nat.le_of_ble_eq_true rfl) (Nat.le_of_ble_eq_true rfl) dX11_init_38 (fun H hI => ?_)
  refine lv_dup Γ.1.1 Γ.1.2.1 dX11_init_41 rfl ?_
  refine k_call (pre := (.inr (9, [.ref (a + 1), .ref (a + 3), .ref (a + 8), .null, .null, .null, .null, .null, .null, .null, .int 0, .int 0, .int 0, .int 0])) :: (body_X10 X (a + 1) ++ ((body_X6 X (a + 3) ++ ((body_X3 X (a + 8) ++ ([]))))))) (tl' := (.inr (9, [.ref (a + 1), .ref (a + 3), .ref (a + 8), .null, .null, .null, .null, .null, .null, .null, .int 0, .int 0, .int 0, .int 0])) :: (body_X10 X (a + 1) ++ ((body_X6 X (a + 3) ++ ((body_X3 X (a + 8) ++ ((body_X5 X (a + 11) ++ ([]))))))))) Γ hl.1 hI (n := 11) rfl (c_X5_init l X (a + 11)) mfi_X5 hN (Or.inr gx_71) rfl rfl ⟨Nat.le_of_ble_eq_true rfl, Nat.le_of_ble_eq_true rfl⟩ (Nat.le_of_ble_eq_true rfl) dX11_init_42 ⟨Nat.le_of_ble_eq_true rfl, Nat.le_of_ble_eq_true rfl⟩ rfl (fun H locs hI => ?_)
  refine k_putF Γ hname hI 0 rfl (C := RX11) (T := TX11) (N := 14) tyX11 tyX11_ok nmX11 rfl inlX11 3 (by decide) gx_72 rfl rfl (ty := .object "RingCutters$Past") (by decide +kernel) rfl rfl (Nat.le_of_ble_eq_true rfl) (tl' := (.inr (9, [.ref (a + 1), .ref (a + 3), .ref (a + 8), .ref (a + 11), .null, .null, .null, .null, .null, .null, .int 0, .int 0, .int 0, .int 0])) :: (body_X10 X (a + 1) ++ ((body_X6 X (a + 3) ++ ((body_X3 X (a + 8) ++ ((body_X5 X (a + 11) ++ ([]))))))))) rfl dX11_init_45 (fun H locs hI => ?_)
  refine lv_aload_n Γ.1.1 Γ.1.2.1 dX11_init_48 rfl (lv_at hl 0 rfl) ?_
  refine k_new (ci := 2) (fs := [.null, .int 0]) (C := RX2) (T := TX2) (N := 2) Γ hI 40 rfl tyX2 tyX2_ok rfl inlX2 gx_73 gx_74 gx_34 (fun j hj => fs_X2 j hj) (Nat.le_of_ble_eq_true rfl) (Nat.le_of_ble_eq_true rfl) dX11_init_49 (fun H hI => ?_)
  refine lv_dup Γ.1.1 Γ.1.2.1 dX11_init_52 rfl ?_
  refine k_call (pre := (.inr (9, [.ref (a + 1), .ref (a + 3), .ref (a + 8), .ref (a + 11), .null, .null, .null, .null, .null, .null, .int 0, .int 0, .int 0, .int 0])) :: (body_X10 X (a + 1) ++ ((body_X6 X (a + 3) ++ ((body_X3 X (a + 8) ++ ((body_X5 X (a + 11) ++ ([]))))))))) (tl' := (.inr (9, [.ref (a + 1), .ref (a + 3), .ref (a + 8), .ref (a + 11), .null, .null, .null, .null, .null, .null, .int 0, .int 0, .int 0, .int 0])) :: (body_X10 X (a + 1) ++ ((body_X6 X (a + 3) ++ ((body_X3 X (a + 8) ++ ((body_X5 X (a + 11) ++ ((body_X2 X (a + 40) ++ ([]))))))))))) Γ hl.1 hI (n := 40) rfl (c_X2_init l X (a + 40)) mfi_X2 hN (Or.inl ⟨_, List.mem_of_getElem? (i := 5) rfl⟩) rfl rfl ⟨Nat.le_of_ble_eq_true rfl, Nat.le_of_ble_eq_true rfl⟩ (Nat.le_of_ble_eq_true rfl) dX11_init_53 ⟨Nat.le_of_ble_eq_true rfl, Nat.le_of_ble_eq_true rfl⟩ rfl (fun H locs hI => ?_)
  refine k_putF Γ hname hI 0 rfl (C := RX11) (T := TX11) (N := 14) tyX11 tyX11_ok nmX11 rfl inlX11 4 (by decide) gx_75 rfl rfl (ty := .object "RingCutters$Kept") (by decide +kernel) rfl rfl (Nat.le_of_ble_eq_true rfl) (tl' := (.inr (9, [.ref (a + 1), .ref (a + 3), .ref (a + 8), .ref (a + 11), .ref (a + 40), .null, .null, .null, .null, .null, .int 0, .int 0, .int 0, .int 0])) :: (body_X10 X (a + 1) ++ ((body_X6 X (a + 3) ++ ((body_X3 X (a + 8) ++ ((body_X5 X (a + 11) ++ ((body_X2 X (a + 40) ++ ([]))))))))))) rfl dX11_init_56 (fun H locs hI => ?_)
  refine lv_aload_n Γ.1.1 Γ.1.2.1 dX11_init_59 rfl (lv_at hl 0 rfl) ?_
  refine k_new (ci := 2) (fs := [.null, .int 0]) (C := RX2) (T := TX2) (N := 2) Γ hI 44 rfl tyX2 tyX2_ok rfl inlX2 gx_73 gx_74 gx_34 (fun j hj => fs_X2 j hj) (Nat.le_of_ble_eq_true rfl) (Nat.le_of_ble_eq_true rfl) dX11_init_60 (fun H hI => ?_)
  refine lv_dup Γ.1.1 Γ.1.2.1 dX11_init_63 rfl ?_
  refine k_call (pre := (.inr (9, [.ref (a + 1), .ref (a + 3), .ref (a + 8), .ref (a + 11), .ref (a + 40), .null, .null, .null, .null, .null, .int 0, .int 0, .int 0, .int 0])) :: (body_X10 X (a + 1) ++ ((body_X6 X (a + 3) ++ ((body_X3 X (a + 8) ++ ((body_X5 X (a + 11) ++ ((body_X2 X (a + 40) ++ ([]))))))))))) (tl' := (.inr (9, [.ref (a + 1), .ref (a + 3), .ref (a + 8), .ref (a + 11), .ref (a + 40), .null, .null, .null, .null, .null, .int 0, .int 0, .int 0, .int 0])) :: (body_X10 X (a + 1) ++ ((body_X6 X (a + 3) ++ ((body_X3 X (a + 8) ++ ((body_X5 X (a + 11) ++ ((body_X2 X (a + 40) ++ ((body_X2 X (a + 44) ++ ([]))))))))))))) Γ hl.1 hI (n := 44) rfl (c_X2_init l X (a + 44)) mfi_X2 hN (Or.inl ⟨_, List.mem_of_getElem? (i := 5) rfl⟩) rfl rfl ⟨Nat.le_of_ble_eq_true rfl, Nat.le_of_ble_eq_true rfl⟩ (Nat.le_of_ble_eq_true rfl) dX11_init_64 ⟨Nat.le_of_ble_eq_true rfl, Nat.le_of_ble_eq_true rfl⟩ rfl (fun H locs hI => ?_)
  refine k_putF Γ hname hI 0 rfl (C := RX11) (T := TX11) (N := 14) tyX11 tyX11_ok nmX11 rfl inlX11 5 (by decide) gx_76 rfl rfl (ty := .object "RingCutters$Kept") (by decide +kernel) rfl rfl (Nat.le_of_ble_eq_true rfl) (tl' := (.inr (9, [.ref (a + 1), .ref (a + 3), .ref (a + 8), .ref (a + 11), .ref (a + 40), .ref (a + 44), .null, .null, .null, .null, .int 0, .int 0, .int 0, .int 0])) :: (body_X10 X (a + 1) ++ ((body_X6 X (a + 3) ++ ((body_X3 X (a + 8) ++ ((body_X5 X (a + 11) ++ ((body_X2 X (a + 40) ++ ((body_X2 X (a + 44) ++ ([]))))))))))))) rfl dX11_init_67 (fun H locs hI => ?_)
  refine lv_aload_n Γ.1.1 Γ.1.2.1 dX11_init_70 rfl (lv_at hl 0 rfl) ?_
  refine k_new (ci := 1) (fs := [.int 0]) (C := RX1) (T := TX1) (N := 1) Γ hI 48 rfl tyX1 tyX1_ok rfl inlX1 gx_77 gx_78 gx_38 (fun j hj => fs_X1 j hj) (Nat.le_of_ble_eq_true rfl) (Nat.le_of_ble_eq_true rfl) dX11_init_71 (fun H hI => ?_)
  refine lv_dup Γ.1.1 Γ.1.2.1 dX11_init_74 rfl ?_
  refine k_call (pre := (.inr (9, [.ref (a + 1), .ref (a + 3), .ref (a + 8), .ref (a + 11), .ref (a + 40), .ref (a + 44), .null, .null, .null, .null, .int 0, .int 0, .int 0, .int 0])) :: (body_X10 X (a + 1) ++ ((body_X6 X (a + 3) ++ ((body_X3 X (a + 8) ++ ((body_X5 X (a + 11) ++ ((body_X2 X (a + 40) ++ ((body_X2 X (a + 44) ++ ([]))))))))))))) (tl' := (.inr (9, [.ref (a + 1), .ref (a + 3), .ref (a + 8), .ref (a + 11), .ref (a + 40), .ref (a + 44), .null, .null, .null, .null, .int 0, .int 0, .int 0, .int 0])) :: (body_X10 X (a + 1) ++ ((body_X6 X (a + 3) ++ ((body_X3 X (a + 8) ++ ((body_X5 X (a + 11) ++ ((body_X2 X (a + 40) ++ ((body_X2 X (a + 44) ++ ((body_X1 X (a + 48) ++ ([]))))))))))))))) Γ hl.1 hI (n := 48) rfl (c_X1_init l X (a + 48)) mfi_X1 hN (Or.inl ⟨_, List.mem_of_getElem? (i := 7) rfl⟩) rfl rfl ⟨Nat.le_of_ble_eq_true rfl, Nat.le_of_ble_eq_true rfl⟩ (Nat.le_of_ble_eq_true rfl) dX11_init_75 ⟨Nat.le_of_ble_eq_true rfl, Nat.le_of_ble_eq_true rfl⟩ rfl (fun H locs hI => ?_)
  refine k_putF Γ hname hI 0 rfl (C := RX11) (T := TX11) (N := 14) tyX11 tyX11_ok nmX11 rfl inlX11 6 (by decide) gx_79 rfl rfl (ty := .object "RingCutters$Draws") (by decide +kernel) rfl rfl (Nat.le_of_ble_eq_true rfl) (tl' := (.inr (9, [.ref (a + 1), .ref (a + 3), .ref (a + 8), .ref (a + 11), .ref (a + 40), .ref (a + 44), .ref (a + 48), .null, .null, .null, .int 0, .int 0, .int 0, .int 0])) :: (body_X10 X (a + 1) ++ ((body_X6 X (a + 3) ++ ((body_X3 X (a + 8) ++ ((body_X5 X (a + 11) ++ ((body_X2 X (a + 40) ++ ((body_X2 X (a + 44) ++ ((body_X1 X (a + 48) ++ ([]))))))))))))))) rfl dX11_init_78 (fun H locs hI => ?_)
  refine lv_aload_n Γ.1.1 Γ.1.2.1 dX11_init_81 rfl (lv_at hl 0 rfl) ?_
  refine k_new (ci := 7) (fs := [.null, .null, .null, .null, .null, .int 0]) (C := RX8) (T := TX8) (N := 6) Γ hI 49 rfl tyX8 tyX8_ok rfl inlX8 gx_80 gx_81 gx_48 (fun j hj => fs_X8 j hj) (Nat.le_of_ble_eq_true rfl) (Nat.le_of_ble_eq_true rfl) dX11_init_82 (fun H hI => ?_)
  refine lv_dup Γ.1.1 Γ.1.2.1 dX11_init_85 rfl ?_
  refine k_call (pre := (.inr (9, [.ref (a + 1), .ref (a + 3), .ref (a + 8), .ref (a + 11), .ref (a + 40), .ref (a + 44), .ref (a + 48), .null, .null, .null, .int 0, .int 0, .int 0, .int 0])) :: (body_X10 X (a + 1) ++ ((body_X6 X (a + 3) ++ ((body_X3 X (a + 8) ++ ((body_X5 X (a + 11) ++ ((body_X2 X (a + 40) ++ ((body_X2 X (a + 44) ++ ((body_X1 X (a + 48) ++ ([]))))))))))))))) (tl' := (.inr (9, [.ref (a + 1), .ref (a + 3), .ref (a + 8), .ref (a + 11), .ref (a + 40), .ref (a + 44), .ref (a + 48), .null, .null, .null, .int 0, .int 0, .int 0, .int 0])) :: (body_X10 X (a + 1) ++ ((body_X6 X (a + 3) ++ ((body_X3 X (a + 8) ++ ((body_X5 X (a + 11) ++ ((body_X2 X (a + 40) ++ ((body_X2 X (a + 44) ++ ((body_X1 X (a + 48) ++ ((body_X8 X (a + 49) ++ ([]))))))))))))))))) Γ hl.1 hI (n := 49) rfl (c_X8_init l X (a + 49)) mfi_X8 hN (Or.inl ⟨_, List.mem_of_getElem? (i := 8) rfl⟩) rfl rfl ⟨Nat.le_of_ble_eq_true rfl, Nat.le_of_ble_eq_true rfl⟩ (Nat.le_of_ble_eq_true rfl) dX11_init_86 ⟨Nat.le_of_ble_eq_true rfl, Nat.le_of_ble_eq_true rfl⟩ rfl (fun H locs hI => ?_)
  refine k_putF Γ hname hI 0 rfl (C := RX11) (T := TX11) (N := 14) tyX11 tyX11_ok nmX11 rfl inlX11 7 (by decide) gx_82 rfl rfl (ty := .object "RingCutters$Rings") (by decide +kernel) rfl rfl (Nat.le_of_ble_eq_true rfl) (tl' := (.inr (9, [.ref (a + 1), .ref (a + 3), .ref (a + 8), .ref (a + 11), .ref (a + 40), .ref (a + 44), .ref (a + 48), .ref (a + 49), .null, .null, .int 0, .int 0, .int 0, .int 0])) :: (body_X10 X (a + 1) ++ ((body_X6 X (a + 3) ++ ((body_X3 X (a + 8) ++ ((body_X5 X (a + 11) ++ ((body_X2 X (a + 40) ++ ((body_X2 X (a + 44) ++ ((body_X1 X (a + 48) ++ ((body_X8 X (a + 49) ++ ([]))))))))))))))))) rfl dX11_init_89 (fun H locs hI => ?_)
  refine lv_aload_n Γ.1.1 Γ.1.2.1 dX11_init_92 rfl (lv_at hl 0 rfl) ?_
  refine k_new (ci := 4) (fs := [.null]) (C := RX4) (T := TX4) (N := 1) Γ hI 55 rfl tyX4 tyX4_ok rfl inlX4 gx_83 gx_84 gx_53 (fun j hj => fs_X4 j hj) (Nat.le_of_ble_eq_true rfl) (Nat.le_of_ble_eq_true rfl) dX11_init_93 (fun H hI => ?_)
  refine lv_dup Γ.1.1 Γ.1.2.1 dX11_init_96 rfl ?_
  refine k_call (pre := (.inr (9, [.ref (a + 1), .ref (a + 3), .ref (a + 8), .ref (a + 11), .ref (a + 40), .ref (a + 44), .ref (a + 48), .ref (a + 49), .null, .null, .int 0, .int 0, .int 0, .int 0])) :: (body_X10 X (a + 1) ++ ((body_X6 X (a + 3) ++ ((body_X3 X (a + 8) ++ ((body_X5 X (a + 11) ++ ((body_X2 X (a + 40) ++ ((body_X2 X (a + 44) ++ ((body_X1 X (a + 48) ++ ((body_X8 X (a + 49) ++ ([]))))))))))))))))) (tl' := (.inr (9, [.ref (a + 1), .ref (a + 3), .ref (a + 8), .ref (a + 11), .ref (a + 40), .ref (a + 44), .ref (a + 48), .ref (a + 49), .null, .null, .int 0, .int 0, .int 0, .int 0])) :: (body_X10 X (a + 1) ++ ((body_X6 X (a + 3) ++ ((body_X3 X (a + 8) ++ ((body_X5 X (a + 11) ++ ((body_X2 X (a + 40) ++ ((body_X2 X (a + 44) ++ ((body_X1 X (a + 48) ++ ((body_X8 X (a + 49) ++ ((body_X4 X (a + 55) ++ ([]))))))))))))))))))) Γ hl.1 hI (n := 55) rfl (c_X4_init l X (a + 55)) mfi_X4 hN (Or.inl ⟨_, List.mem_of_getElem? (i := 9) rfl⟩) rfl rfl ⟨Nat.le_of_ble_eq_true rfl, Nat.le_of_ble_eq_true rfl⟩ (Nat.le_of_ble_eq_true rfl) dX11_init_97 ⟨Nat.le_of_ble_eq_true rfl, Nat.le_of_ble_eq_true rfl⟩ rfl (fun H locs hI => ?_)
  refine k_putF Γ hname hI 0 rfl (C := RX11) (T := TX11) (N := 14) tyX11 tyX11_ok nmX11 rfl inlX11 8 (by decide) gx_85 rfl rfl (ty := .object "RingCutters$Packing") (by decide +kernel) rfl rfl (Nat.le_of_ble_eq_true rfl) (tl' := (.inr (9, [.ref (a + 1), .ref (a + 3), .ref (a + 8), .ref (a + 11), .ref (a + 40), .ref (a + 44), .ref (a + 48), .ref (a + 49), .ref (a + 55), .null, .int 0, .int 0, .int 0, .int 0])) :: (body_X10 X (a + 1) ++ ((body_X6 X (a + 3) ++ ((body_X3 X (a + 8) ++ ((body_X5 X (a + 11) ++ ((body_X2 X (a + 40) ++ ((body_X2 X (a + 44) ++ ((body_X1 X (a + 48) ++ ((body_X8 X (a + 49) ++ ((body_X4 X (a + 55) ++ ([]))))))))))))))))))) rfl dX11_init_100 (fun H locs hI => ?_)
  refine lv_aload_n Γ.1.1 Γ.1.2.1 dX11_init_103 rfl (lv_at hl 0 rfl) ?_
  refine k_new (ci := 0) (fs := [.null, .null, .int 0, .int 0, .int 0, .long 0, .long 0]) (C := RX0) (T := TX0) (N := 7) Γ hI 57 rfl tyX0 tyX0_ok rfl inlX0 gx_86 gx_87 gx_59 (fun j hj => fs_X0 j hj) (Nat.le_of_ble_eq_true rfl) (Nat.le_of_ble_eq_true rfl) dX11_init_104 (fun H hI => ?_)
  refine lv_dup Γ.1.1 Γ.1.2.1 dX11_init_107 rfl ?_
  refine k_call (pre := (.inr (9, [.ref (a + 1), .ref (a + 3), .ref (a + 8), .ref (a + 11), .ref (a + 40), .ref (a + 44), .ref (a + 48), .ref (a + 49), .ref (a + 55), .null, .int 0, .int 0, .int 0, .int 0])) :: (body_X10 X (a + 1) ++ ((body_X6 X (a + 3) ++ ((body_X3 X (a + 8) ++ ((body_X5 X (a + 11) ++ ((body_X2 X (a + 40) ++ ((body_X2 X (a + 44) ++ ((body_X1 X (a + 48) ++ ((body_X8 X (a + 49) ++ ((body_X4 X (a + 55) ++ ([]))))))))))))))))))) (tl' := (.inr (9, [.ref (a + 1), .ref (a + 3), .ref (a + 8), .ref (a + 11), .ref (a + 40), .ref (a + 44), .ref (a + 48), .ref (a + 49), .ref (a + 55), .null, .int 0, .int 0, .int 0, .int 0])) :: (body_X10 X (a + 1) ++ ((body_X6 X (a + 3) ++ ((body_X3 X (a + 8) ++ ((body_X5 X (a + 11) ++ ((body_X2 X (a + 40) ++ ((body_X2 X (a + 44) ++ ((body_X1 X (a + 48) ++ ((body_X8 X (a + 49) ++ ((body_X4 X (a + 55) ++ ((body_X0 X (a + 57) ++ ([]))))))))))))))))))))) Γ hl.1 hI (n := 57) rfl (c_X0_init l X (a + 57)) mfi_X0 hN (Or.inl ⟨_, List.mem_of_getElem? (i := 10) rfl⟩) rfl rfl ⟨Nat.le_of_ble_eq_true rfl, Nat.le_of_ble_eq_true rfl⟩ (Nat.le_of_ble_eq_true rfl) dX11_init_108 ⟨Nat.le_of_ble_eq_true rfl, Nat.le_of_ble_eq_true rfl⟩ rfl (fun H locs hI => ?_)
  refine k_putF Γ hname hI 0 rfl (C := RX11) (T := TX11) (N := 14) tyX11 tyX11_ok nmX11 rfl inlX11 9 (by decide) gx_88 rfl rfl (ty := .object "RingCutters$Discount") (by decide +kernel) rfl rfl (Nat.le_of_ble_eq_true rfl) (tl' := (.inr (9, [.ref (a + 1), .ref (a + 3), .ref (a + 8), .ref (a + 11), .ref (a + 40), .ref (a + 44), .ref (a + 48), .ref (a + 49), .ref (a + 55), .ref (a + 57), .int 0, .int 0, .int 0, .int 0])) :: (body_X10 X (a + 1) ++ ((body_X6 X (a + 3) ++ ((body_X3 X (a + 8) ++ ((body_X5 X (a + 11) ++ ((body_X2 X (a + 40) ++ ((body_X2 X (a + 44) ++ ((body_X1 X (a + 48) ++ ((body_X8 X (a + 49) ++ ((body_X4 X (a + 55) ++ ((body_X0 X (a + 57) ++ ([]))))))))))))))))))))) rfl dX11_init_111 (fun H locs hI => ?_)
  refine lv_aload_n Γ.1.1 Γ.1.2.1 dX11_init_114 rfl (lv_at hl 0 rfl) ?_
  refine lv_iconst (v := (1 : Int32)) Γ.1.1 Γ.1.2.1 dX11_init_115 (by decide) ?_
  refine k_put Γ hI 0 rfl (C := RX11) (T := TX11) (N := 14) tyX11 tyX11_ok nmX11 rfl inlX11 11 (by decide) gx_89 rfl (ty := .boolean) (by decide +kernel) rfl rfl (Nat.le_of_ble_eq_true rfl) (tl' := (.inr (9, [.ref (a + 1), .ref (a + 3), .ref (a + 8), .ref (a + 11), .ref (a + 40), .ref (a + 44), .ref (a + 48), .ref (a + 49), .ref (a + 55), .ref (a + 57), .int 0, .int (1 : Int32), .int 0, .int 0])) :: (body_X10 X (a + 1) ++ ((body_X6 X (a + 3) ++ ((body_X3 X (a + 8) ++ ((body_X5 X (a + 11) ++ ((body_X2 X (a + 40) ++ ((body_X2 X (a + 44) ++ ((body_X1 X (a + 48) ++ ((body_X8 X (a + 49) ++ ((body_X4 X (a + 55) ++ ((body_X0 X (a + 57) ++ ([]))))))))))))))))))))) rfl dX11_init_116 (fun H locs hI => ?_)
  refine lv_aload_n Γ.1.1 Γ.1.2.1 dX11_init_119 rfl (lv_at hl 0 rfl) ?_
  refine lv_iconst (v := (1 : Int32)) Γ.1.1 Γ.1.2.1 dX11_init_120 (by decide) ?_
  refine k_put Γ hI 0 rfl (C := RX11) (T := TX11) (N := 14) tyX11 tyX11_ok nmX11 rfl inlX11 12 (by decide) gx_90 rfl (ty := .boolean) (by decide +kernel) rfl rfl (Nat.le_of_ble_eq_true rfl) (tl' := (.inr (9, [.ref (a + 1), .ref (a + 3), .ref (a + 8), .ref (a + 11), .ref (a + 40), .ref (a + 44), .ref (a + 48), .ref (a + 49), .ref (a + 55), .ref (a + 57), .int 0, .int (1 : Int32), .int (1 : Int32), .int 0])) :: (body_X10 X (a + 1) ++ ((body_X6 X (a + 3) ++ ((body_X3 X (a + 8) ++ ((body_X5 X (a + 11) ++ ((body_X2 X (a + 40) ++ ((body_X2 X (a + 44) ++ ((body_X1 X (a + 48) ++ ((body_X8 X (a + 49) ++ ((body_X4 X (a + 55) ++ ((body_X0 X (a + 57) ++ ([]))))))))))))))))))))) rfl dX11_init_121 (fun H locs hI => ?_)
  refine lv_aload_n Γ.1.1 Γ.1.2.1 dX11_init_124 rfl (lv_at hl 0 rfl) ?_
  refine lv_iconst (v := (1 : Int32)) Γ.1.1 Γ.1.2.1 dX11_init_125 (by decide) ?_
  refine k_put Γ hI 0 rfl (C := RX11) (T := TX11) (N := 14) tyX11 tyX11_ok nmX11 rfl inlX11 13 (by decide) gx_91 rfl (ty := .boolean) (by decide +kernel) rfl rfl (Nat.le_of_ble_eq_true rfl) (tl' := (.inr (9, [.ref (a + 1), .ref (a + 3), .ref (a + 8), .ref (a + 11), .ref (a + 40), .ref (a + 44), .ref (a + 48), .ref (a + 49), .ref (a + 55), .ref (a + 57), .int 0, .int (1 : Int32), .int (1 : Int32), .int (1 : Int32)])) :: (body_X10 X (a + 1) ++ ((body_X6 X (a + 3) ++ ((body_X3 X (a + 8) ++ ((body_X5 X (a + 11) ++ ((body_X2 X (a + 40) ++ ((body_X2 X (a + 44) ++ ((body_X1 X (a + 48) ++ ((body_X8 X (a + 49) ++ ((body_X4 X (a + 55) ++ ((body_X0 X (a + 57) ++ ([]))))))))))))))))))))) rfl dX11_init_126 (fun H locs hI => ?_)
  exact k_vret Γ hI dX11_init_129
theorem fs_X12 : ∀ j, j < 30 → defaultValue (tyX12 j) = vp_V [.int 0, .null, .int 0, .int 0, .int 0, .int 0, .int 0, .int 0, .int 0, .int 0, .long 0, .null, .null, .null, .null, .null, .null, .null, .null, .int 0, .null, .long 0, .null, .null, .null, .null, .long 0, .long 0, .int 0, .int 0] j := lt_s (lt_s (lt_s (lt_s (lt_s (lt_s (lt_s (lt_s (lt_s (lt_s (lt_s (lt_s (lt_s (lt_s (lt_s (lt_s (lt_s (lt_s (lt_s (lt_s (lt_s (lt_s (lt_s (lt_s (lt_s (lt_s (lt_s (lt_s (lt_s (lt_s (lt_0) rfl) rfl) rfl) rfl) rfl) rfl) rfl) rfl) rfl) rfl) rfl) rfl) rfl) rfl) rfl) rfl) rfl) rfl) rfl) rfl) rfl) rfl) rfl) rfl) rfl) rfl) rfl) rfl) rfl) rfl
theorem mfi_X12 : mfI yX12_init cX12_init 1 := ⟨⟨gx_110, gx_111, gx_112⟩, rfl, by decide +kernel, by decide +kernel, by decide +kernel⟩
/-- the cells behind RingCuttersModel() -/
def body_X12 (X : GX) (a : Nat) : List va_E := (.inr (10, [.int 0, .ref (a + 1), .int 0, .int 0, .int 0, .int 0, .int 0, .int 0, .int 0, .int 0, .long 0, .ref (a + 2), .ref (a + 3), .ref (a + 4), .ref (a + 5), .ref (a + 6), .ref (a + 7), .ref (a + 8), .ref (a + 9), .int 0, .ref (a + 10), .long 0, .ref (a + 11), .ref (a + 12), .ref (a + 13), .ref (a + 14), .long 0, .long 0, .int 0, .int 0])) :: (.inl (X.2.2.1, 640, .inl (fun _ => 0))) :: (.inl (X.2.2.1, 159, .inl (fun _ => 0))) :: (.inl (X.2.2.1, 159, .inl (fun _ => 0))) :: (.inl (X.2.2.1, 318, .inl (fun _ => 0))) :: (.inl (X.2.2.1, 1272, .inl (fun _ => 0))) :: (.inl (X.2.2.1, 159, .inl (fun _ => 0))) :: (.inl (X.2.2.1, 159, .inl (fun _ => 0))) :: (.inl (X.2.2.2.1, 12, .inr (.inl (fun _ => 0)))) :: (.inl (X.2.2.2.2.1, 2, .inl (fun _ => 0))) :: (.inl (X.2.2.2.2.1, 4096, .inl (fun _ => 0))) :: (.inl (X.2.2.1, 4096, .inl (fun _ => 0))) :: (.inl (X.2.2.2.1, 12, .inr (.inl (fun _ => 0)))) :: (.inl (X.2.2.2.1, 12, .inr (.inl (fun _ => 0)))) :: (.inl (X.2.2.1, 12, .inl (fun _ => 0))) :: []
set_option maxRecDepth 20000 in
set_option maxHeartbeats 4000000 in
theorem c_X12_init (l : Launch) (X : GX) (a : Nat) : kMet l yX12_init cX12_init 1 ({ frames := 1, cells := 14, slots := 11108, locals := 20 } : Room) X a (.inr (10, [.int 0, .null, .int 0, .int 0, .int 0, .int 0, .int 0, .int 0, .int 0, .int 0, .long 0, .null, .null, .null, .null, .null, .null, .null, .null, .int 0, .null, .long 0, .null, .null, .null, .null, .long 0, .long 0, .int 0, .int 0])) (body_X12 X a) 14 11108 := by
  refine kMet_of (own := RX12) (by decide) rfl rfl (Nat.le_of_ble_eq_true rfl) (fun p e s m below meth c H ls Γ hname hN hI hl => ?_)
  refine lv_aload_n Γ.1.1 Γ.1.2.1 dX12_init_0 rfl (lv_at hl 0 rfl) ?_
  refine k_obj Γ hl.1 gx_95 gx_1 gx_2 dX12_init_1 (Nat.le_of_ble_eq_true rfl) (Nat.le_of_ble_eq_true rfl) ?_
  refine lv_aload_n Γ.1.1 Γ.1.2.1 dX12_init_4 rfl (lv_at hl 0 rfl) ?_
  refine lv_sipush (v := (640 : Int32)) Γ.1.1 Γ.1.2.1 dX12_init_5 (by decide) ?_
  refine k_newa (x := .inl (X.2.2.1, 640, .inl (fun _ => 0))) Γ hI 1 rfl (ty := .int) rfl gx_3 (N := 640) (Γ.2.1.2 0 _ rfl).2 rfl (vp_cell_i _ _ _) (by decide) (by decide) (Nat.le_of_ble_eq_true rfl) (Nat.le_of_ble_eq_true rfl) (Nat.le_of_ble_eq_true rfl) dX12_init_8 (fun H hI => ?_)
  refine k_putF Γ hname hI 0 rfl (C := RX12) (T := TX12) (N := 30) tyX12 tyX12_ok nmX12 rfl inlX12 1 (by decide) gx_96 rfl rfl (ty := .array .int) (by decide +kernel) rfl rfl (Nat.le_of_ble_eq_true rfl) (tl' := (.inr (10, [.int 0, .ref (a + 1), .int 0, .int 0, .int 0, .int 0, .int 0, .int 0, .int 0, .int 0, .long 0, .null, .null, .null, .null, .null, .null, .null, .null, .int 0, .null, .long 0, .null, .null, .null, .null, .long 0, .long 0, .int 0, .int 0])) :: (.inl (X.2.2.1, 640, .inl (fun _ => 0))) :: []) rfl dX12_init_10 (fun H locs hI => ?_)
  refine lv_aload_n Γ.1.1 Γ.1.2.1 dX12_init_13 rfl (lv_at hl 0 rfl) ?_
  refine lv_sipush (v := (159 : Int32)) Γ.1.1 Γ.1.2.1 dX12_init_14 (by decide) ?_
  refine k_newa (x := .inl (X.2.2.1, 159, .inl (fun _ => 0))) Γ hI 2 rfl (ty := .int) rfl gx_3 (N := 159) (Γ.2.1.2 0 _ rfl).2 rfl (vp_cell_i _ _ _) (by decide) (by decide) (Nat.le_of_ble_eq_true rfl) (Nat.le_of_ble_eq_true rfl) (Nat.le_of_ble_eq_true rfl) dX12_init_17 (fun H hI => ?_)
  refine k_putF Γ hname hI 0 rfl (C := RX12) (T := TX12) (N := 30) tyX12 tyX12_ok nmX12 rfl inlX12 11 (by decide) gx_97 rfl rfl (ty := .array .int) (by decide +kernel) rfl rfl (Nat.le_of_ble_eq_true rfl) (tl' := (.inr (10, [.int 0, .ref (a + 1), .int 0, .int 0, .int 0, .int 0, .int 0, .int 0, .int 0, .int 0, .long 0, .ref (a + 2), .null, .null, .null, .null, .null, .null, .null, .int 0, .null, .long 0, .null, .null, .null, .null, .long 0, .long 0, .int 0, .int 0])) :: (.inl (X.2.2.1, 640, .inl (fun _ => 0))) :: (.inl (X.2.2.1, 159, .inl (fun _ => 0))) :: []) rfl dX12_init_19 (fun H locs hI => ?_)
  refine lv_aload_n Γ.1.1 Γ.1.2.1 dX12_init_22 rfl (lv_at hl 0 rfl) ?_
  refine lv_sipush (v := (159 : Int32)) Γ.1.1 Γ.1.2.1 dX12_init_23 (by decide) ?_
  refine k_newa (x := .inl (X.2.2.1, 159, .inl (fun _ => 0))) Γ hI 3 rfl (ty := .int) rfl gx_3 (N := 159) (Γ.2.1.2 0 _ rfl).2 rfl (vp_cell_i _ _ _) (by decide) (by decide) (Nat.le_of_ble_eq_true rfl) (Nat.le_of_ble_eq_true rfl) (Nat.le_of_ble_eq_true rfl) dX12_init_26 (fun H hI => ?_)
  refine k_putF Γ hname hI 0 rfl (C := RX12) (T := TX12) (N := 30) tyX12 tyX12_ok nmX12 rfl inlX12 12 (by decide) gx_98 rfl rfl (ty := .array .int) (by decide +kernel) rfl rfl (Nat.le_of_ble_eq_true rfl) (tl' := (.inr (10, [.int 0, .ref (a + 1), .int 0, .int 0, .int 0, .int 0, .int 0, .int 0, .int 0, .int 0, .long 0, .ref (a + 2), .ref (a + 3), .null, .null, .null, .null, .null, .null, .int 0, .null, .long 0, .null, .null, .null, .null, .long 0, .long 0, .int 0, .int 0])) :: (.inl (X.2.2.1, 640, .inl (fun _ => 0))) :: (.inl (X.2.2.1, 159, .inl (fun _ => 0))) :: (.inl (X.2.2.1, 159, .inl (fun _ => 0))) :: []) rfl dX12_init_28 (fun H locs hI => ?_)
  refine lv_aload_n Γ.1.1 Γ.1.2.1 dX12_init_31 rfl (lv_at hl 0 rfl) ?_
  refine lv_sipush (v := (318 : Int32)) Γ.1.1 Γ.1.2.1 dX12_init_32 (by decide) ?_
  refine k_newa (x := .inl (X.2.2.1, 318, .inl (fun _ => 0))) Γ hI 4 rfl (ty := .int) rfl gx_3 (N := 318) (Γ.2.1.2 0 _ rfl).2 rfl (vp_cell_i _ _ _) (by decide) (by decide) (Nat.le_of_ble_eq_true rfl) (Nat.le_of_ble_eq_true rfl) (Nat.le_of_ble_eq_true rfl) dX12_init_35 (fun H hI => ?_)
  refine k_putF Γ hname hI 0 rfl (C := RX12) (T := TX12) (N := 30) tyX12 tyX12_ok nmX12 rfl inlX12 13 (by decide) gx_99 rfl rfl (ty := .array .int) (by decide +kernel) rfl rfl (Nat.le_of_ble_eq_true rfl) (tl' := (.inr (10, [.int 0, .ref (a + 1), .int 0, .int 0, .int 0, .int 0, .int 0, .int 0, .int 0, .int 0, .long 0, .ref (a + 2), .ref (a + 3), .ref (a + 4), .null, .null, .null, .null, .null, .int 0, .null, .long 0, .null, .null, .null, .null, .long 0, .long 0, .int 0, .int 0])) :: (.inl (X.2.2.1, 640, .inl (fun _ => 0))) :: (.inl (X.2.2.1, 159, .inl (fun _ => 0))) :: (.inl (X.2.2.1, 159, .inl (fun _ => 0))) :: (.inl (X.2.2.1, 318, .inl (fun _ => 0))) :: []) rfl dX12_init_37 (fun H locs hI => ?_)
  refine lv_aload_n Γ.1.1 Γ.1.2.1 dX12_init_40 rfl (lv_at hl 0 rfl) ?_
  refine lv_sipush (v := (1272 : Int32)) Γ.1.1 Γ.1.2.1 dX12_init_41 (by decide) ?_
  refine k_newa (x := .inl (X.2.2.1, 1272, .inl (fun _ => 0))) Γ hI 5 rfl (ty := .int) rfl gx_3 (N := 1272) (Γ.2.1.2 0 _ rfl).2 rfl (vp_cell_i _ _ _) (by decide) (by decide) (Nat.le_of_ble_eq_true rfl) (Nat.le_of_ble_eq_true rfl) (Nat.le_of_ble_eq_true rfl) dX12_init_44 (fun H hI => ?_)
  refine k_putF Γ hname hI 0 rfl (C := RX12) (T := TX12) (N := 30) tyX12 tyX12_ok nmX12 rfl inlX12 14 (by decide) gx_100 rfl rfl (ty := .array .int) (by decide +kernel) rfl rfl (Nat.le_of_ble_eq_true rfl) (tl' := (.inr (10, [.int 0, .ref (a + 1), .int 0, .int 0, .int 0, .int 0, .int 0, .int 0, .int 0, .int 0, .long 0, .ref (a + 2), .ref (a + 3), .ref (a + 4), .ref (a + 5), .null, .null, .null, .null, .int 0, .null, .long 0, .null, .null, .null, .null, .long 0, .long 0, .int 0, .int 0])) :: (.inl (X.2.2.1, 640, .inl (fun _ => 0))) :: (.inl (X.2.2.1, 159, .inl (fun _ => 0))) :: (.inl (X.2.2.1, 159, .inl (fun _ => 0))) :: (.inl (X.2.2.1, 318, .inl (fun _ => 0))) :: (.inl (X.2.2.1, 1272, .inl (fun _ => 0))) :: []) rfl dX12_init_46 (fun H locs hI => ?_)
  refine lv_aload_n Γ.1.1 Γ.1.2.1 dX12_init_49 rfl (lv_at hl 0 rfl) ?_
  refine lv_sipush (v := (159 : Int32)) Γ.1.1 Γ.1.2.1 dX12_init_50 (by decide) ?_
  refine k_newa (x := .inl (X.2.2.1, 159, .inl (fun _ => 0))) Γ hI 6 rfl (ty := .int) rfl gx_3 (N := 159) (Γ.2.1.2 0 _ rfl).2 rfl (vp_cell_i _ _ _) (by decide) (by decide) (Nat.le_of_ble_eq_true rfl) (Nat.le_of_ble_eq_true rfl) (Nat.le_of_ble_eq_true rfl) dX12_init_53 (fun H hI => ?_)
  refine k_putF Γ hname hI 0 rfl (C := RX12) (T := TX12) (N := 30) tyX12 tyX12_ok nmX12 rfl inlX12 15 (by decide) gx_101 rfl rfl (ty := .array .int) (by decide +kernel) rfl rfl (Nat.le_of_ble_eq_true rfl) (tl' := (.inr (10, [.int 0, .ref (a + 1), .int 0, .int 0, .int 0, .int 0, .int 0, .int 0, .int 0, .int 0, .long 0, .ref (a + 2), .ref (a + 3), .ref (a + 4), .ref (a + 5), .ref (a + 6), .null, .null, .null, .int 0, .null, .long 0, .null, .null, .null, .null, .long 0, .long 0, .int 0, .int 0])) :: (.inl (X.2.2.1, 640, .inl (fun _ => 0))) :: (.inl (X.2.2.1, 159, .inl (fun _ => 0))) :: (.inl (X.2.2.1, 159, .inl (fun _ => 0))) :: (.inl (X.2.2.1, 318, .inl (fun _ => 0))) :: (.inl (X.2.2.1, 1272, .inl (fun _ => 0))) :: (.inl (X.2.2.1, 159, .inl (fun _ => 0))) :: []) rfl dX12_init_55 (fun H locs hI => ?_)
  refine lv_aload_n Γ.1.1 Γ.1.2.1 dX12_init_58 rfl (lv_at hl 0 rfl) ?_
  refine lv_sipush (v := (159 : Int32)) Γ.1.1 Γ.1.2.1 dX12_init_59 (by decide) ?_
  refine k_newa (x := .inl (X.2.2.1, 159, .inl (fun _ => 0))) Γ hI 7 rfl (ty := .int) rfl gx_3 (N := 159) (Γ.2.1.2 0 _ rfl).2 rfl (vp_cell_i _ _ _) (by decide) (by decide) (Nat.le_of_ble_eq_true rfl) (Nat.le_of_ble_eq_true rfl) (Nat.le_of_ble_eq_true rfl) dX12_init_62 (fun H hI => ?_)
  refine k_putF Γ hname hI 0 rfl (C := RX12) (T := TX12) (N := 30) tyX12 tyX12_ok nmX12 rfl inlX12 16 (by decide) gx_102 rfl rfl (ty := .array .int) (by decide +kernel) rfl rfl (Nat.le_of_ble_eq_true rfl) (tl' := (.inr (10, [.int 0, .ref (a + 1), .int 0, .int 0, .int 0, .int 0, .int 0, .int 0, .int 0, .int 0, .long 0, .ref (a + 2), .ref (a + 3), .ref (a + 4), .ref (a + 5), .ref (a + 6), .ref (a + 7), .null, .null, .int 0, .null, .long 0, .null, .null, .null, .null, .long 0, .long 0, .int 0, .int 0])) :: (.inl (X.2.2.1, 640, .inl (fun _ => 0))) :: (.inl (X.2.2.1, 159, .inl (fun _ => 0))) :: (.inl (X.2.2.1, 159, .inl (fun _ => 0))) :: (.inl (X.2.2.1, 318, .inl (fun _ => 0))) :: (.inl (X.2.2.1, 1272, .inl (fun _ => 0))) :: (.inl (X.2.2.1, 159, .inl (fun _ => 0))) :: (.inl (X.2.2.1, 159, .inl (fun _ => 0))) :: []) rfl dX12_init_64 (fun H locs hI => ?_)
  refine lv_aload_n Γ.1.1 Γ.1.2.1 dX12_init_67 rfl (lv_at hl 0 rfl) ?_
  refine lv_bipush (v := (12 : Int32)) Γ.1.1 Γ.1.2.1 dX12_init_68 (by decide) ?_
  refine k_newa (x := .inl (X.2.2.2.1, 12, .inr (.inl (fun _ => 0)))) Γ hI 8 rfl (ty := .long) rfl gx_18 (N := 12) (Γ.2.1.2 1 _ rfl).2 rfl (vp_cell_l _ _ _) (by decide) (by decide) (Nat.le_of_ble_eq_true rfl) (Nat.le_of_ble_eq_true rfl) (Nat.le_of_ble_eq_true rfl) dX12_init_70 (fun H hI => ?_)
  refine k_putF Γ hname hI 0 rfl (C := RX12) (T := TX12) (N := 30) tyX12 tyX12_ok nmX12 rfl inlX12 17 (by decide) gx_103 rfl rfl (ty := .array .long) (by decide +kernel) rfl rfl (Nat.le_of_ble_eq_true rfl) (tl' := (.inr (10, [.int 0, .ref (a + 1), .int 0, .int 0, .int 0, .int 0, .int 0, .int 0, .int 0, .int 0, .long 0, .ref (a + 2), .ref (a + 3), .ref (a + 4), .ref (a + 5), .ref (a + 6), .ref (a + 7), .ref (a + 8), .null, .int 0, .null, .long 0, .null, .null, .null, .null, .long 0, .long 0, .int 0, .int 0])) :: (.inl (X.2.2.1, 640, .inl (fun _ => 0))) :: (.inl (X.2.2.1, 159, .inl (fun _ => 0))) :: (.inl (X.2.2.1, 159, .inl (fun _ => 0))) :: (.inl (X.2.2.1, 318, .inl (fun _ => 0))) :: (.inl (X.2.2.1, 1272, .inl (fun _ => 0))) :: (.inl (X.2.2.1, 159, .inl (fun _ => 0))) :: (.inl (X.2.2.1, 159, .inl (fun _ => 0))) :: (.inl (X.2.2.2.1, 12, .inr (.inl (fun _ => 0)))) :: []) rfl dX12_init_72 (fun H locs hI => ?_)
  refine lv_aload_n Γ.1.1 Γ.1.2.1 dX12_init_75 rfl (lv_at hl 0 rfl) ?_
  refine lv_iconst (v := (2 : Int32)) Γ.1.1 Γ.1.2.1 dX12_init_76 (by decide) ?_
  refine k_newa (x := .inl (X.2.2.2.2.1, 2, .inl (fun _ => 0))) Γ hI 9 rfl (ty := .boolean) rfl gx_40 (N := 2) (Γ.2.1.2 2 _ rfl).2 rfl (vp_cell_i _ _ _) (by decide) (by decide) (Nat.le_of_ble_eq_true rfl) (Nat.le_of_ble_eq_true rfl) (Nat.le_of_ble_eq_true rfl) dX12_init_77 (fun H hI => ?_)
  refine k_putF Γ hname hI 0 rfl (C := RX12) (T := TX12) (N := 30) tyX12 tyX12_ok nmX12 rfl inlX12 18 (by decide) gx_104 rfl rfl (ty := .array .boolean) (by decide +kernel) rfl rfl (Nat.le_of_ble_eq_true rfl) (tl' := (.inr (10, [.int 0, .ref (a + 1), .int 0, .int 0, .int 0, .int 0, .int 0, .int 0, .int 0, .int 0, .long 0, .ref (a + 2), .ref (a + 3), .ref (a + 4), .ref (a + 5), .ref (a + 6), .ref (a + 7), .ref (a + 8), .ref (a + 9), .int 0, .null, .long 0, .null, .null, .null, .null, .long 0, .long 0, .int 0, .int 0])) :: (.inl (X.2.2.1, 640, .inl (fun _ => 0))) :: (.inl (X.2.2.1, 159, .inl (fun _ => 0))) :: (.inl (X.2.2.1, 159, .inl (fun _ => 0))) :: (.inl (X.2.2.1, 318, .inl (fun _ => 0))) :: (.inl (X.2.2.1, 1272, .inl (fun _ => 0))) :: (.inl (X.2.2.1, 159, .inl (fun _ => 0))) :: (.inl (X.2.2.1, 159, .inl (fun _ => 0))) :: (.inl (X.2.2.2.1, 12, .inr (.inl (fun _ => 0)))) :: (.inl (X.2.2.2.2.1, 2, .inl (fun _ => 0))) :: []) rfl dX12_init_79 (fun H locs hI => ?_)
  refine lv_aload_n Γ.1.1 Γ.1.2.1 dX12_init_82 rfl (lv_at hl 0 rfl) ?_
  refine lv_sipush (v := (4096 : Int32)) Γ.1.1 Γ.1.2.1 dX12_init_83 (by decide) ?_
  refine k_newa (x := .inl (X.2.2.2.2.1, 4096, .inl (fun _ => 0))) Γ hI 10 rfl (ty := .boolean) rfl gx_40 (N := 4096) (Γ.2.1.2 2 _ rfl).2 rfl (vp_cell_i _ _ _) (by decide) (by decide) (Nat.le_of_ble_eq_true rfl) (Nat.le_of_ble_eq_true rfl) (Nat.le_of_ble_eq_true rfl) dX12_init_86 (fun H hI => ?_)
  refine k_putF Γ hname hI 0 rfl (C := RX12) (T := TX12) (N := 30) tyX12 tyX12_ok nmX12 rfl inlX12 20 (by decide) gx_105 rfl rfl (ty := .array .boolean) (by decide +kernel) rfl rfl (Nat.le_of_ble_eq_true rfl) (tl' := (.inr (10, [.int 0, .ref (a + 1), .int 0, .int 0, .int 0, .int 0, .int 0, .int 0, .int 0, .int 0, .long 0, .ref (a + 2), .ref (a + 3), .ref (a + 4), .ref (a + 5), .ref (a + 6), .ref (a + 7), .ref (a + 8), .ref (a + 9), .int 0, .ref (a + 10), .long 0, .null, .null, .null, .null, .long 0, .long 0, .int 0, .int 0])) :: (.inl (X.2.2.1, 640, .inl (fun _ => 0))) :: (.inl (X.2.2.1, 159, .inl (fun _ => 0))) :: (.inl (X.2.2.1, 159, .inl (fun _ => 0))) :: (.inl (X.2.2.1, 318, .inl (fun _ => 0))) :: (.inl (X.2.2.1, 1272, .inl (fun _ => 0))) :: (.inl (X.2.2.1, 159, .inl (fun _ => 0))) :: (.inl (X.2.2.1, 159, .inl (fun _ => 0))) :: (.inl (X.2.2.2.1, 12, .inr (.inl (fun _ => 0)))) :: (.inl (X.2.2.2.2.1, 2, .inl (fun _ => 0))) :: (.inl (X.2.2.2.2.1, 4096, .inl (fun _ => 0))) :: []) rfl dX12_init_88 (fun H locs hI => ?_)
  refine lv_aload_n Γ.1.1 Γ.1.2.1 dX12_init_91 rfl (lv_at hl 0 rfl) ?_
  refine lv_sipush (v := (4096 : Int32)) Γ.1.1 Γ.1.2.1 dX12_init_92 (by decide) ?_
  refine k_newa (x := .inl (X.2.2.1, 4096, .inl (fun _ => 0))) Γ hI 11 rfl (ty := .int) rfl gx_3 (N := 4096) (Γ.2.1.2 0 _ rfl).2 rfl (vp_cell_i _ _ _) (by decide) (by decide) (Nat.le_of_ble_eq_true rfl) (Nat.le_of_ble_eq_true rfl) (Nat.le_of_ble_eq_true rfl) dX12_init_95 (fun H hI => ?_)
  refine k_putF Γ hname hI 0 rfl (C := RX12) (T := TX12) (N := 30) tyX12 tyX12_ok nmX12 rfl inlX12 22 (by decide) gx_106 rfl rfl (ty := .array .int) (by decide +kernel) rfl rfl (Nat.le_of_ble_eq_true rfl) (tl' := (.inr (10, [.int 0, .ref (a + 1), .int 0, .int 0, .int 0, .int 0, .int 0, .int 0, .int 0, .int 0, .long 0, .ref (a + 2), .ref (a + 3), .ref (a + 4), .ref (a + 5), .ref (a + 6), .ref (a + 7), .ref (a + 8), .ref (a + 9), .int 0, .ref (a + 10), .long 0, .ref (a + 11), .null, .null, .null, .long 0, .long 0, .int 0, .int 0])) :: (.inl (X.2.2.1, 640, .inl (fun _ => 0))) :: (.inl (X.2.2.1, 159, .inl (fun _ => 0))) :: (.inl (X.2.2.1, 159, .inl (fun _ => 0))) :: (.inl (X.2.2.1, 318, .inl (fun _ => 0))) :: (.inl (X.2.2.1, 1272, .inl (fun _ => 0))) :: (.inl (X.2.2.1, 159, .inl (fun _ => 0))) :: (.inl (X.2.2.1, 159, .inl (fun _ => 0))) :: (.inl (X.2.2.2.1, 12, .inr (.inl (fun _ => 0)))) :: (.inl (X.2.2.2.2.1, 2, .inl (fun _ => 0))) :: (.inl (X.2.2.2.2.1, 4096, .inl (fun _ => 0))) :: (.inl (X.2.2.1, 4096, .inl (fun _ => 0))) :: []) rfl dX12_init_97 (fun H locs hI => ?_)
  refine lv_aload_n Γ.1.1 Γ.1.2.1 dX12_init_100 rfl (lv_at hl 0 rfl) ?_
  refine lv_bipush (v := (12 : Int32)) Γ.1.1 Γ.1.2.1 dX12_init_101 (by decide) ?_
  refine k_newa (x := .inl (X.2.2.2.1, 12, .inr (.inl (fun _ => 0)))) Γ hI 12 rfl (ty := .long) rfl gx_18 (N := 12) (Γ.2.1.2 1 _ rfl).2 rfl (vp_cell_l _ _ _) (by decide) (by decide) (Nat.le_of_ble_eq_true rfl) (Nat.le_of_ble_eq_true rfl) (Nat.le_of_ble_eq_true rfl) dX12_init_103 (fun H hI => ?_)
  refine k_putF Γ hname hI 0 rfl (C := RX12) (T := TX12) (N := 30) tyX12 tyX12_ok nmX12 rfl inlX12 23 (by decide) gx_107 rfl rfl (ty := .array .long) (by decide +kernel) rfl rfl (Nat.le_of_ble_eq_true rfl) (tl' := (.inr (10, [.int 0, .ref (a + 1), .int 0, .int 0, .int 0, .int 0, .int 0, .int 0, .int 0, .int 0, .long 0, .ref (a + 2), .ref (a + 3), .ref (a + 4), .ref (a + 5), .ref (a + 6), .ref (a + 7), .ref (a + 8), .ref (a + 9), .int 0, .ref (a + 10), .long 0, .ref (a + 11), .ref (a + 12), .null, .null, .long 0, .long 0, .int 0, .int 0])) :: (.inl (X.2.2.1, 640, .inl (fun _ => 0))) :: (.inl (X.2.2.1, 159, .inl (fun _ => 0))) :: (.inl (X.2.2.1, 159, .inl (fun _ => 0))) :: (.inl (X.2.2.1, 318, .inl (fun _ => 0))) :: (.inl (X.2.2.1, 1272, .inl (fun _ => 0))) :: (.inl (X.2.2.1, 159, .inl (fun _ => 0))) :: (.inl (X.2.2.1, 159, .inl (fun _ => 0))) :: (.inl (X.2.2.2.1, 12, .inr (.inl (fun _ => 0)))) :: (.inl (X.2.2.2.2.1, 2, .inl (fun _ => 0))) :: (.inl (X.2.2.2.2.1, 4096, .inl (fun _ => 0))) :: (.inl (X.2.2.1, 4096, .inl (fun _ => 0))) :: (.inl (X.2.2.2.1, 12, .inr (.inl (fun _ => 0)))) :: []) rfl dX12_init_105 (fun H locs hI => ?_)
  refine lv_aload_n Γ.1.1 Γ.1.2.1 dX12_init_108 rfl (lv_at hl 0 rfl) ?_
  refine lv_bipush (v := (12 : Int32)) Γ.1.1 Γ.1.2.1 dX12_init_109 (by decide) ?_
  refine k_newa (x := .inl (X.2.2.2.1, 12, .inr (.inl (fun _ => 0)))) Γ hI 13 rfl (ty := .long) rfl gx_18 (N := 12) (Γ.2.1.2 1 _ rfl).2 rfl (vp_cell_l _ _ _) (by decide) (by decide) (Nat.le_of_ble_eq_true rfl) (Nat.le_of_ble_eq_true rfl) (Nat.le_of_ble_eq_true rfl) dX12_init_111 (fun H hI => ?_)
  refine k_putF Γ hname hI 0 rfl (C := RX12) (T := TX12) (N := 30) tyX12 tyX12_ok nmX12 rfl inlX12 24 (by decide) gx_108 rfl rfl (ty := .array .long) (by decide +kernel) rfl rfl (Nat.le_of_ble_eq_true rfl) (tl' := (.inr (10, [.int 0, .ref (a + 1), .int 0, .int 0, .int 0, .int 0, .int 0, .int 0, .int 0, .int 0, .long 0, .ref (a + 2), .ref (a + 3), .ref (a + 4), .ref (a + 5), .ref (a + 6), .ref (a + 7), .ref (a + 8), .ref (a + 9), .int 0, .ref (a + 10), .long 0, .ref (a + 11), .ref (a + 12), .ref (a + 13), .null, .long 0, .long 0, .int 0, .int 0])) :: (.inl (X.2.2.1, 640, .inl (fun _ => 0))) :: (.inl (X.2.2.1, 159, .inl (fun _ => 0))) :: (.inl (X.2.2.1, 159, .inl (fun _ => 0))) :: (.inl (X.2.2.1, 318, .inl (fun _ => 0))) :: (.inl (X.2.2.1, 1272, .inl (fun _ => 0))) :: (.inl (X.2.2.1, 159, .inl (fun _ => 0))) :: (.inl (X.2.2.1, 159, .inl (fun _ => 0))) :: (.inl (X.2.2.2.1, 12, .inr (.inl (fun _ => 0)))) :: (.inl (X.2.2.2.2.1, 2, .inl (fun _ => 0))) :: (.inl (X.2.2.2.2.1, 4096, .inl (fun _ => 0))) :: (.inl (X.2.2.1, 4096, .inl (fun _ => 0))) :: (.inl (X.2.2.2.1, 12, .inr (.inl (fun _ => 0)))) :: (.inl (X.2.2.2.1, 12, .inr (.inl (fun _ => 0)))) :: []) rfl dX12_init_113 (fun H locs hI => ?_)
  refine lv_aload_n Γ.1.1 Γ.1.2.1 dX12_init_116 rfl (lv_at hl 0 rfl) ?_
  refine lv_bipush (v := (12 : Int32)) Γ.1.1 Γ.1.2.1 dX12_init_117 (by decide) ?_
  refine k_newa (x := .inl (X.2.2.1, 12, .inl (fun _ => 0))) Γ hI 14 rfl (ty := .int) rfl gx_3 (N := 12) (Γ.2.1.2 0 _ rfl).2 rfl (vp_cell_i _ _ _) (by decide) (by decide) (Nat.le_of_ble_eq_true rfl) (Nat.le_of_ble_eq_true rfl) (Nat.le_of_ble_eq_true rfl) dX12_init_119 (fun H hI => ?_)
  refine k_putF Γ hname hI 0 rfl (C := RX12) (T := TX12) (N := 30) tyX12 tyX12_ok nmX12 rfl inlX12 25 (by decide) gx_109 rfl rfl (ty := .array .int) (by decide +kernel) rfl rfl (Nat.le_of_ble_eq_true rfl) (tl' := (.inr (10, [.int 0, .ref (a + 1), .int 0, .int 0, .int 0, .int 0, .int 0, .int 0, .int 0, .int 0, .long 0, .ref (a + 2), .ref (a + 3), .ref (a + 4), .ref (a + 5), .ref (a + 6), .ref (a + 7), .ref (a + 8), .ref (a + 9), .int 0, .ref (a + 10), .long 0, .ref (a + 11), .ref (a + 12), .ref (a + 13), .ref (a + 14), .long 0, .long 0, .int 0, .int 0])) :: (.inl (X.2.2.1, 640, .inl (fun _ => 0))) :: (.inl (X.2.2.1, 159, .inl (fun _ => 0))) :: (.inl (X.2.2.1, 159, .inl (fun _ => 0))) :: (.inl (X.2.2.1, 318, .inl (fun _ => 0))) :: (.inl (X.2.2.1, 1272, .inl (fun _ => 0))) :: (.inl (X.2.2.1, 159, .inl (fun _ => 0))) :: (.inl (X.2.2.1, 159, .inl (fun _ => 0))) :: (.inl (X.2.2.2.1, 12, .inr (.inl (fun _ => 0)))) :: (.inl (X.2.2.2.2.1, 2, .inl (fun _ => 0))) :: (.inl (X.2.2.2.2.1, 4096, .inl (fun _ => 0))) :: (.inl (X.2.2.1, 4096, .inl (fun _ => 0))) :: (.inl (X.2.2.2.1, 12, .inr (.inl (fun _ => 0)))) :: (.inl (X.2.2.2.1, 12, .inr (.inl (fun _ => 0)))) :: (.inl (X.2.2.1, 12, .inl (fun _ => 0))) :: []) rfl dX12_init_121 (fun H locs hI => ?_)
  exact k_vret Γ hI dX12_init_124
