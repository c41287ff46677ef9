/-! BASE 2 (by gen.py): words by their lists, shapes, rows by field -/
theorem gw_t1 {w : Cond} (i : Nat) (h : tables_1_1[i]? = some w) (hg : goodWord w = true) : w ∈ GW := List.mem_filter.mpr ⟨List.mem_append_right _ (List.mem_append_left _ (List.mem_of_getElem? h)), hg⟩
theorem gw_t2 {w : Cond} (i : Nat) (h : tables_1_2[i]? = some w) (hg : goodWord w = true) : w ∈ GW := List.mem_filter.mpr ⟨List.mem_append_right _ (List.mem_append_right _ (List.mem_append_left _ (List.mem_of_getElem? h))), hg⟩
theorem gw_t3 {w : Cond} (i : Nat) (h : tables_1_3[i]? = some w) (hg : goodWord w = true) : w ∈ GW := List.mem_filter.mpr ⟨List.mem_append_right _ (List.mem_append_right _ (List.mem_append_right _ (List.mem_append_left _ (List.mem_of_getElem? h)))), hg⟩
theorem gw_t4 {w : Cond} (i : Nat) (h : tables_1_4[i]? = some w) (hg : goodWord w = true) : w ∈ GW := List.mem_filter.mpr ⟨List.mem_append_right _ (List.mem_append_right _ (List.mem_append_right _ (List.mem_append_right _ (List.mem_append_left _ (List.mem_of_getElem? h))))), hg⟩
theorem gw_t5 {w : Cond} (i : Nat) (h : tables_1_5[i]? = some w) (hg : goodWord w = true) : w ∈ GW := List.mem_filter.mpr ⟨List.mem_append_right _ (List.mem_append_right _ (List.mem_append_right _ (List.mem_append_right _ (List.mem_append_right _ (List.mem_append_left _ (List.mem_of_getElem? h)))))), hg⟩
theorem gw_t6 {w : Cond} (i : Nat) (h : tables_1_6[i]? = some w) (hg : goodWord w = true) : w ∈ GW := List.mem_filter.mpr ⟨List.mem_append_right _ (List.mem_append_right _ (List.mem_append_right _ (List.mem_append_right _ (List.mem_append_right _ (List.mem_append_right _ ((List.mem_of_getElem? h))))))), hg⟩
theorem gw_s {y : MethodName} (i n : Nat) (h : lw_privs[i]? = some (y, n)) (hg : goodWord (Cond.selects y.cls y y) = true) : Cond.selects y.cls y y ∈ GW := List.mem_filter.mpr ⟨List.mem_append_left _ (List.mem_map.mpr ⟨(y, n), List.mem_of_getElem? h, rfl⟩), hg⟩
theorem gw_0 : Cond.constant RJ6 265 (1431655765) ∈ GW := gw_t2 189 rfl rfl
theorem gw_1 : Cond.constant RJ6 266 (858993459) ∈ GW := gw_t2 190 rfl rfl
theorem gw_2 : Cond.constant RJ6 267 (252645135) ∈ GW := gw_t2 191 rfl rfl
theorem gw_3 : Cond.fieldLink RX3 18 "RingCutters$Net" "told" "I" ∈ GW := gw_t1 58 rfl rfl
theorem gw_4 : Cond.fieldLink RX3 22 "RingCutters$Net" "there" "I" ∈ GW := gw_t1 61 rfl rfl
theorem gw_5 : Cond.fieldLink RX3 25 "RingCutters$Net" "taken" "I" ∈ GW := gw_t1 67 rfl rfl
theorem gw_6 : Cond.fieldLink RX3 28 "RingCutters$Net" "lineCount" "I" ∈ GW := gw_t1 70 rfl rfl
theorem gw_7 : Cond.fieldLink RX3 15 "RingCutters$Net" "between" "[I" ∈ GW := gw_t1 57 rfl rfl
theorem gw_8 : Cond.fieldLink RX3 9 "RingCutters$Net" "weights" "[I" ∈ GW := gw_t1 56 rfl rfl
theorem gw_9 : Cond.methodLink RX3 31 yX3_holds ∈ GW := gw_t2 123 rfl rfl
theorem gw_10 : Cond.methodLink RX3 35 yX3_weightOf ∈ GW := gw_t2 196 rfl rfl
theorem gw_11 : Cond.methodLink RX3 39 yX3_linesOf ∈ GW := gw_t2 138 rfl rfl
theorem gw_12 : Cond.methodLink RX3 43 yX3_endsIn ∈ GW := gw_t2 150 rfl rfl
theorem gw_13 : Cond.methodLink RX8 28 yJ6_bitCount_0f7a4 ∈ GW := gw_t2 186 rfl rfl
theorem gw_14 : Cond.methodLink RX3 49 yX8_lowest ∈ GW := gw_t2 183 rfl rfl
theorem gw_15 : Cond.methodLink RX3 46 yX3_reachedFrom ∈ GW := gw_t2 179 rfl rfl
theorem gw_16 : Cond.methodLink RX3 54 yX3_isThere ∈ GW := gw_t2 119 rfl rfl
theorem gw_17 : Cond.methodLink RX3 58 yX3_setLines ∈ GW := gw_t2 151 rfl rfl
theorem gw_18 : Cond.fieldLink RX0 9 "RingCutters$Discount" "weights" "[J" ∈ GW := gw_t1 211 rfl rfl
theorem gw_19 : Cond.fieldLink RX0 44 "RingCutters$Net" "there" "I" ∈ GW := gw_t1 62 rfl rfl
theorem gw_20 : Cond.fieldLink RX0 23 "RingCutters$Discount" "left" "I" ∈ GW := gw_t1 214 rfl rfl
theorem gw_21 : Cond.fieldLink RX0 57 "RingCutters$Discount" "piled" "I" ∈ GW := gw_t1 213 rfl rfl
theorem gw_22 : Cond.fieldLink RX0 60 "RingCutters$Discount" "sum" "J" ∈ GW := gw_t1 217 rfl rfl
theorem gw_23 : Cond.fieldLink RX0 64 "RingCutters$Discount" "below" "J" ∈ GW := gw_t1 218 rfl rfl
theorem gw_24 : Cond.methodLink RX0 53 yX3_weightOf ∈ GW := gw_t3 123 rfl rfl
theorem gw_25 : Cond.methodLink RX0 67 yX3_holds ∈ GW := gw_t3 128 rfl rfl
theorem gw_26 : Cond.methodLink RX0 71 yX3_endsIn ∈ GW := gw_t3 129 rfl rfl
theorem gw_27 : Cond.fieldLink RX8 22 "RingCutters$Rings" "ringSets" "[I" ∈ GW := gw_t1 176 rfl rfl
theorem gw_28 : Cond.fieldLink RX8 65 "RingCutters$Rings" "many" "I" ∈ GW := gw_t1 178 rfl rfl
theorem gw_29 : Cond.fieldLink RX0 75 "RingCutters$Rings" "many" "I" ∈ GW := gw_t1 179 rfl rfl
theorem gw_30 : Cond.methodLink RX0 80 yX8_ringAt ∈ GW := gw_t3 134 rfl rfl
theorem gw_31 : Cond.methodLink RX0 83 yJ6_bitCount_0f7a4 ∈ GW := gw_t3 135 rfl rfl
theorem gw_32 : Cond.constantLong RX0 90 (9223372036854775807) ∈ GW := gw_t3 140 rfl rfl
theorem gw_33 : Cond.methodLink RX0 92 Lib.MathLoose.min_long.x ∈ GW := gw_t3 141 rfl rfl
theorem gw_34 : Cond.static Lib.MathLoose.min_long.x ∈ GW := gw_t3 142 rfl rfl
theorem gw_35 : Cond.initialized "java/lang/Math" ∈ GW := gw_t1 12 rfl rfl
theorem gw_36 : Cond.code Lib.MathLoose.min_long.x Lib.MathLoose.min_long.code 4 (some .long) ∈ GW := gw_t3 143 rfl rfl
theorem gw_37 : Cond.methodLink RX0 98 yX3_linesIn ∈ GW := gw_t3 148 rfl rfl
theorem gw_38 : Cond.methodLink RX0 101 yX3_partsIn ∈ GW := gw_t3 152 rfl rfl
theorem gw_39 : Cond.fieldLink RX0 15 "RingCutters$Discount" "pile" "[I" ∈ GW := gw_t1 212 rfl rfl
theorem gw_40 : Cond.fieldLink RX8 9 "RingCutters$Rings" "free" "[Z" ∈ GW := gw_t1 173 rfl rfl
theorem gw_41 : Cond.fieldLink RX0 104 "RingCutters$Discount" "cut" "I" ∈ GW := gw_t1 215 rfl rfl
theorem gw_42 : Cond.methodLink RX0 107 Lib.Math.min.name ∈ GW := gw_t3 161 rfl rfl
theorem gw_43 : Cond.static Lib.Math.min.name ∈ GW := gw_t2 66 rfl rfl
theorem gw_44 : Cond.code Lib.Math.min.name Lib.Math.min.code 2 (some .int) ∈ GW := gw_t2 67 rfl rfl
theorem gw_45 : Cond.methodLink RX0 109 yX8_isFree ∈ GW := gw_t3 162 rfl rfl
theorem gw_46 : Cond.methodLink RX0 19 yX0_begin ∈ GW := gw_t3 119 rfl rfl
theorem gw_47 : Cond.methodLink RX0 49 yX0_giveBack ∈ GW := gw_t3 157 rfl rfl
theorem gw_48 : Cond.methodLink RX0 27 yX0_strip ∈ GW := gw_t3 124 rfl rfl
theorem gw_49 : Cond.methodLink RX0 30 yX0_leastOpenRing ∈ GW := gw_t3 130 rfl rfl
theorem gw_50 : Cond.methodLink RX0 38 yX0_takeFromAll ∈ GW := gw_t3 144 rfl rfl
theorem gw_51 : Cond.methodLink RX0 41 yX0_pileWeightless ∈ GW := gw_t3 153 rfl rfl
theorem gw_52 : Cond.methodLink RX0 34 yX0_takeFromRing ∈ GW := gw_t3 136 rfl rfl
theorem gw_53 : Cond.methodLink RX0 113 yX0_commonDivisor ∈ GW := gw_t4 122 rfl rfl
theorem gw_54 : Cond.fieldLink RX1 7 "RingCutters$Draws" "seed" "I" ∈ GW := gw_t1 162 rfl rfl
theorem gw_55 : Cond.constant RX1 13 (1103515245) ∈ GW := gw_t4 12 rfl rfl
theorem gw_56 : Cond.fieldLink RX10 13 "RingCutters$Tape" "length" "I" ∈ GW := gw_t1 35 rfl rfl
theorem gw_57 : Cond.fieldLink RX10 9 "RingCutters$Tape" "bytes" "[I" ∈ GW := gw_t1 34 rfl rfl
theorem gw_58 : Cond.fieldLink RX11 12 "RingCutters" "tape" "LRingCutters$Tape;" ∈ GW := gw_t1 234 rfl rfl
theorem gw_59 : Cond.methodLink RX11 85 yX10_hasRoom ∈ GW := gw_t2 41 rfl rfl
theorem gw_60 : Cond.methodLink RX11 89 yX10_append ∈ GW := gw_t2 45 rfl rfl
theorem gw_61 : Cond.fieldLink RX11 93 "RingCutters$Tape" "length" "I" ∈ GW := gw_t1 37 rfl rfl
theorem gw_62 : Cond.fieldLink RX6 46 "RingCutters$Reader" "place" "I" ∈ GW := gw_t1 91 rfl rfl
theorem gw_63 : Cond.methodLink RX6 49 yX10_byteAt ∈ GW := gw_t2 68 rfl rfl
theorem gw_64 : Cond.fieldLink RX6 64 "RingCutters$Reader" "kind" "I" ∈ GW := gw_t1 95 rfl rfl
theorem gw_65 : Cond.fieldLink RX6 67 "RingCutters$Reader" "value" "J" ∈ GW := gw_t1 96 rfl rfl
theorem gw_66 : Cond.methodLink RX6 71 yX6_isLetter ∈ GW := gw_t2 76 rfl rfl
theorem gw_67 : Cond.fieldLink RX6 53 "RingCutters$Reader" "next" "I" ∈ GW := gw_t1 97 rfl rfl
theorem gw_68 : Cond.methodLink RX6 75 yX6_isDigit ∈ GW := gw_t2 79 rfl rfl
theorem gw_69 : Cond.constantLong RX6 80 (10) ∈ GW := gw_t2 83 rfl rfl
theorem gw_70 : Cond.constantLong RX6 78 (27) ∈ GW := gw_t2 82 rfl rfl
theorem gw_71 : Cond.constantLong RX6 100 (8805260) ∈ GW := gw_t2 92 rfl rfl
theorem gw_72 : Cond.fieldLink RX6 14 "RingCutters$Reader" "found" "LRingCutters$Net;" ∈ GW := gw_t1 86 rfl rfl
theorem gw_73 : Cond.fieldLink RX6 107 "RingCutters$Net" "lineCount" "I" ∈ GW := gw_t1 72 rfl rfl
theorem gw_74 : Cond.fieldLink RX6 29 "RingCutters$Reader" "expected" "I" ∈ GW := gw_t1 93 rfl rfl
theorem gw_75 : Cond.fieldLink RX6 104 "RingCutters$Net" "told" "I" ∈ GW := gw_t1 60 rfl rfl
theorem gw_76 : Cond.constantLong RX6 102 (243140) ∈ GW := gw_t2 93 rfl rfl
theorem gw_77 : Cond.fieldLink RX6 18 "RingCutters$Reader" "names" "[J" ∈ GW := gw_t1 88 rfl rfl
theorem gw_78 : Cond.methodLink RX6 110 yX6_isName ∈ GW := gw_t2 98 rfl rfl
theorem gw_79 : Cond.methodLink RX6 114 yX6_pointNamed ∈ GW := gw_t2 102 rfl rfl
theorem gw_80 : Cond.methodLink RX6 118 yX3_addPoint ∈ GW := gw_t2 106 rfl rfl
theorem gw_81 : Cond.constantLong RX6 121 (9) ∈ GW := gw_t2 114 rfl rfl
theorem gw_82 : Cond.methodLink RX6 123 yX3_changeWeight ∈ GW := gw_t2 115 rfl rfl
theorem gw_83 : Cond.fieldLink RX6 25 "RingCutters$Reader" "rows" "I" ∈ GW := gw_t1 89 rfl rfl
theorem gw_84 : Cond.fieldLink RX6 32 "RingCutters$Reader" "first" "I" ∈ GW := gw_t1 94 rfl rfl
theorem gw_85 : Cond.fieldLink RX6 127 "RingCutters$Net" "there" "I" ∈ GW := gw_t1 66 rfl rfl
theorem gw_86 : Cond.methodLink RX6 130 yX3_endsIn ∈ GW := gw_t2 134 rfl rfl
theorem gw_87 : Cond.methodLink RX6 133 yX3_addLine ∈ GW := gw_t2 146 rfl rfl
theorem gw_88 : Cond.methodLink RX6 82 yX6_beginRow ∈ GW := gw_t2 88 rfl rfl
theorem gw_89 : Cond.methodLink RX6 85 yX6_takeName ∈ GW := gw_t2 94 rfl rfl
theorem gw_90 : Cond.methodLink RX6 91 yX6_takeSign ∈ GW := gw_t2 126 rfl rfl
theorem gw_91 : Cond.methodLink RX6 88 yX6_takeWeight ∈ GW := gw_t2 110 rfl rfl
theorem gw_92 : Cond.methodLink RX6 94 yX6_takeFirst ∈ GW := gw_t2 130 rfl rfl
theorem gw_93 : Cond.methodLink RX6 97 yX6_takeSecond ∈ GW := gw_t2 142 rfl rfl
theorem gw_94 : Cond.methodLink RX6 22 yX3_empty ∈ GW := gw_t2 61 rfl rfl
theorem gw_95 : Cond.fieldLink RX6 35 "RingCutters$Tape" "length" "I" ∈ GW := gw_t1 36 rfl rfl
theorem gw_96 : Cond.methodLink RX6 40 Lib.Math.min.name ∈ GW := gw_t2 65 rfl rfl
theorem gw_97 : Cond.methodLink RX6 56 yX6_readToken ∈ GW := gw_t2 72 rfl rfl
theorem gw_98 : Cond.methodLink RX6 60 yX6_takeToken ∈ GW := gw_t2 84 rfl rfl
theorem gw_99 : Cond.fieldLink RX5 16 "RingCutters$Past" "count" "I" ∈ GW := gw_t1 130 rfl rfl
theorem gw_100 : Cond.fieldLink RX11 75 "RingCutters" "ringsStale" "Z" ∈ GW := gw_t2 5 rfl rfl
theorem gw_101 : Cond.fieldLink RX11 79 "RingCutters" "packingStale" "Z" ∈ GW := gw_t2 6 rfl rfl
theorem gw_102 : Cond.fieldLink RX11 82 "RingCutters" "discountStale" "Z" ∈ GW := gw_t2 7 rfl rfl
theorem gw_103 : Cond.fieldLink RX11 19 "RingCutters" "reader" "LRingCutters$Reader;" ∈ GW := gw_t1 235 rfl rfl
theorem gw_104 : Cond.methodLink RX11 97 yX6_readAll ∈ GW := gw_t2 57 rfl rfl
theorem gw_105 : Cond.fieldLink RX11 101 "RingCutters" "faultKind" "I" ∈ GW := gw_t2 4 rfl rfl
theorem gw_106 : Cond.fieldLink RX11 26 "RingCutters" "net" "LRingCutters$Net;" ∈ GW := gw_t1 236 rfl rfl
theorem gw_107 : Cond.fieldLink RX11 107 "RingCutters$Reader" "found" "LRingCutters$Net;" ∈ GW := gw_t1 87 rfl rfl
theorem gw_108 : Cond.methodLink RX11 110 yX3_copyFrom ∈ GW := gw_t2 155 rfl rfl
theorem gw_109 : Cond.fieldLink RX11 33 "RingCutters" "past" "LRingCutters$Past;" ∈ GW := gw_t1 237 rfl rfl
theorem gw_110 : Cond.methodLink RX11 114 yX5_forget ∈ GW := gw_t2 159 rfl rfl
theorem gw_111 : Cond.methodLink RX11 117 yX11_markChanged ∈ GW := gw_t2 163 rfl rfl
theorem gw_112 : Cond.fieldLink RX11 120 "RingCutters$Reader" "rows" "I" ∈ GW := gw_t1 90 rfl rfl
theorem gw_113 : Cond.fieldLink RX11 104 "RingCutters$Reader" "place" "I" ∈ GW := gw_t1 92 rfl rfl
theorem gw_114 : Cond.fieldLink RX11 123 "RingCutters$Net" "told" "I" ∈ GW := gw_t1 59 rfl rfl
theorem gw_115 : Cond.fieldLink RX11 126 "RingCutters$Net" "there" "I" ∈ GW := gw_t1 65 rfl rfl
theorem gw_116 : Cond.fieldLink RX11 129 "RingCutters$Net" "lineCount" "I" ∈ GW := gw_t1 71 rfl rfl
theorem gw_117 : Cond.fieldLink RX11 132 "RingCutters$Net" "taken" "I" ∈ GW := gw_t1 69 rfl rfl
theorem gw_118 : Cond.methodLink RX11 135 yX3_partsIn ∈ GW := gw_t2 175 rfl rfl
theorem gw_119 : Cond.methodLink RX11 139 yX3_weightOfSet ∈ GW := gw_t2 192 rfl rfl
theorem gw_120 : Cond.fieldLink RX11 142 "RingCutters$Past" "count" "I" ∈ GW := gw_t1 131 rfl rfl
theorem gw_121 : Cond.methodLink RX11 145 yX3_isThere ∈ GW := gw_t2 204 rfl rfl
theorem gw_122 : Cond.methodLink RX11 163 yX3_linesOf ∈ GW := gw_t2 205 rfl rfl
theorem gw_123 : Cond.fieldLink RX8 15 "RingCutters$Rings" "beside" "[I" ∈ GW := gw_t1 174 rfl rfl
theorem gw_124 : Cond.fieldLink RX8 19 "RingCutters$Rings" "doubled" "[I" ∈ GW := gw_t1 175 rfl rfl
theorem gw_125 : Cond.methodLink RX8 61 yX3_holds ∈ GW := gw_t2 236 rfl rfl
theorem gw_126 : Cond.methodLink RX8 51 yX8_isFree ∈ GW := gw_t2 228 rfl rfl
theorem gw_127 : Cond.fieldLink RX8 25 "RingCutters$Rings" "starts" "[I" ∈ GW := gw_t1 177 rfl rfl
theorem gw_128 : Cond.methodLink RX8 68 yX8_isLeastRing ∈ GW := gw_t3 1 rfl rfl
theorem gw_129 : Cond.fieldLink RX8 43 "RingCutters$Net" "there" "I" ∈ GW := gw_t1 63 rfl rfl
theorem gw_130 : Cond.methodLink RX8 57 yX8_learnRings ∈ GW := gw_t2 237 rfl rfl
theorem gw_131 : Cond.methodLink RX8 47 yX3_areThere ∈ GW := gw_t2 227 rfl rfl
theorem gw_132 : Cond.methodLink RX8 54 yX8_isFreeByTip ∈ GW := gw_t2 232 rfl rfl
theorem gw_133 : Cond.methodLink RX8 34 yX3_linesOf ∈ GW := gw_t2 222 rfl rfl
theorem gw_134 : Cond.methodLink RX8 40 yX3_besides ∈ GW := gw_t2 223 rfl rfl
theorem gw_135 : Cond.fieldLink RX11 57 "RingCutters" "rings" "LRingCutters$Rings;" ∈ GW := gw_t2 1 rfl rfl
theorem gw_136 : Cond.methodLink RX11 278 yX8_learn ∈ GW := gw_t2 218 rfl rfl
theorem gw_137 : Cond.methodLink RX11 169 yX3_areThere ∈ GW := gw_t2 210 rfl rfl
theorem gw_138 : Cond.methodLink RX11 172 yX11_ringsNow ∈ GW := gw_t2 214 rfl rfl
theorem gw_139 : Cond.methodLink RX11 176 yX8_isFree ∈ GW := gw_t3 5 rfl rfl
theorem gw_140 : Cond.methodLink RX11 189 yJ6_bitCount_0f7a4 ∈ GW := gw_t3 18 rfl rfl
theorem gw_141 : Cond.methodLink RX11 179 yX8_fewestOf ∈ GW := gw_t3 10 rfl rfl
theorem gw_142 : Cond.methodLink RX11 182 yX11_tellSet ∈ GW := gw_t3 14 rfl rfl
theorem gw_143 : Cond.methodLink RX11 185 yX11_lightestCut ∈ GW := gw_t3 23 rfl rfl
theorem gw_144 : Cond.methodLink RX7 9 yX3_linesOf ∈ GW := gw_t3 46 rfl rfl
theorem gw_145 : Cond.methodLink RX7 27 yX3_holds ∈ GW := gw_t3 51 rfl rfl
theorem gw_146 : Cond.methodLink RX7 19 yX7_waysBack ∈ GW := gw_t3 48 rfl rfl
theorem gw_147 : Cond.constantLong RX7 25 (2) ∈ GW := gw_t3 52 rfl rfl
theorem gw_148 : Cond.methodLink RX7 15 yX3_isThere ∈ GW := gw_t3 47 rfl rfl
theorem gw_149 : Cond.methodLink RX11 194 yX7_of ∈ GW := gw_t3 43 rfl rfl
theorem gw_150 : Cond.methodLink RX8 71 yX8_ringAt ∈ GW := gw_t3 61 rfl rfl
theorem gw_151 : Cond.methodLink RX11 200 yX8_shortestRing ∈ GW := gw_t3 57 rfl rfl
theorem gw_152 : Cond.fieldLink RX4 9 "RingCutters$Packing" "most" "[I" ∈ GW := gw_t1 201 rfl rfl
theorem gw_153 : Cond.methodLink RX4 19 yX8_lowest ∈ GW := gw_t3 81 rfl rfl
theorem gw_154 : Cond.methodLink RX4 25 yX4_mostIn ∈ GW := gw_t3 82 rfl rfl
theorem gw_155 : Cond.methodLink RX4 28 yX8_startOf ∈ GW := gw_t3 86 rfl rfl
theorem gw_156 : Cond.methodLink RX4 31 yX8_ringAt ∈ GW := gw_t3 90 rfl rfl
theorem gw_157 : Cond.methodLink RX4 34 Lib.Math.max.name ∈ GW := gw_t3 91 rfl rfl
theorem gw_158 : Cond.static Lib.Math.max.name ∈ GW := gw_t3 92 rfl rfl
theorem gw_159 : Cond.code Lib.Math.max.name Lib.Math.max.code 2 (some .int) ∈ GW := gw_t3 93 rfl rfl
theorem gw_160 : Cond.methodLink RX4 15 yX4_mostWithLowest ∈ GW := gw_t3 77 rfl rfl
theorem gw_161 : Cond.fieldLink RX11 64 "RingCutters" "packing" "LRingCutters$Packing;" ∈ GW := gw_t2 2 rfl rfl
theorem gw_162 : Cond.methodLink RX11 281 yX4_learn ∈ GW := gw_t3 73 rfl rfl
theorem gw_163 : Cond.methodLink RX11 203 yX11_packingNow ∈ GW := gw_t3 69 rfl rfl
theorem gw_164 : Cond.methodLink RX11 207 yX4_mostIn ∈ GW := gw_t3 94 rfl rfl
theorem gw_165 : Cond.fieldLink RX4 43 "RingCutters$Rings" "many" "I" ∈ GW := gw_t1 180 rfl rfl
theorem gw_166 : Cond.methodLink RX4 40 yX4_leastOfMost ∈ GW := gw_t3 103 rfl rfl
theorem gw_167 : Cond.methodLink RX11 210 yX4_ringAt ∈ GW := gw_t3 99 rfl rfl
theorem gw_168 : Cond.fieldLink RX11 71 "RingCutters" "discount" "LRingCutters$Discount;" ∈ GW := gw_t2 3 rfl rfl
theorem gw_169 : Cond.methodLink RX11 284 yX0_run ∈ GW := gw_t3 115 rfl rfl
theorem gw_170 : Cond.methodLink RX11 214 yX11_discountNow ∈ GW := gw_t3 111 rfl rfl
theorem gw_171 : Cond.fieldLink RX11 218 "RingCutters$Discount" "cut" "I" ∈ GW := gw_t1 216 rfl rfl
theorem gw_172 : Cond.fieldLink RX5 11 "RingCutters$Past" "places" "[LRingCutters$Net;" ∈ GW := gw_t1 129 rfl rfl
theorem gw_173 : Cond.fieldLink RX5 20 "RingCutters$Past" "latest" "I" ∈ GW := gw_t1 132 rfl rfl
theorem gw_174 : Cond.methodLink RX5 23 yX5_placeAt ∈ GW := gw_t3 171 rfl rfl
theorem gw_175 : Cond.methodLink RX5 27 yX3_copyFrom ∈ GW := gw_t3 175 rfl rfl
theorem gw_176 : Cond.methodLink RX9 24 yX3_isThere ∈ GW := gw_t3 182 rfl rfl
theorem gw_177 : Cond.methodLink RX9 30 yX3_linesOf ∈ GW := gw_t3 183 rfl rfl
theorem gw_178 : Cond.methodLink RX9 34 yX3_remove ∈ GW := gw_t3 184 rfl rfl
theorem gw_179 : Cond.fieldLink RX9 37 "RingCutters$Net" "taken" "I" ∈ GW := gw_t1 68 rfl rfl
theorem gw_180 : Cond.fieldLink RX9 41 "RingCutters$Net" "there" "I" ∈ GW := gw_t1 64 rfl rfl
theorem gw_181 : Cond.methodLink RX9 44 yX3_endsIn ∈ GW := gw_t3 191 rfl rfl
theorem gw_182 : Cond.methodLink RX9 47 yX3_setLines ∈ GW := gw_t3 195 rfl rfl
theorem gw_183 : Cond.methodLink RX9 51 yX3_besides ∈ GW := gw_t3 199 rfl rfl
theorem gw_184 : Cond.methodLink RX9 54 yX8_lowest ∈ GW := gw_t3 200 rfl rfl
theorem gw_185 : Cond.methodLink RX9 60 yX3_weightOf ∈ GW := gw_t3 201 rfl rfl
theorem gw_186 : Cond.methodLink RX9 63 Lib.Math.min.name ∈ GW := gw_t3 202 rfl rfl
theorem gw_187 : Cond.methodLink RX9 68 yX3_addLine ∈ GW := gw_t3 203 rfl rfl
theorem gw_188 : Cond.methodLink RX9 9 yX9_takeLooped ∈ GW := gw_t3 179 rfl rfl
theorem gw_189 : Cond.methodLink RX9 15 yX9_removeTip ∈ GW := gw_t3 188 rfl rfl
theorem gw_190 : Cond.methodLink RX9 18 yX9_thinLines ∈ GW := gw_t3 192 rfl rfl
theorem gw_191 : Cond.methodLink RX9 21 yX9_passBy ∈ GW := gw_t3 196 rfl rfl
theorem gw_192 : Cond.methodLink RX5 31 Lib.Math.min.name ∈ GW := gw_t3 212 rfl rfl
theorem gw_193 : Cond.methodLink RX11 275 yX5_keepNoted ∈ GW := gw_t3 208 rfl rfl
theorem gw_194 : Cond.methodLink RX11 230 yX5_note ∈ GW := gw_t3 167 rfl rfl
theorem gw_195 : Cond.methodLink RX11 233 yX9_step ∈ GW := gw_t3 176 rfl rfl
theorem gw_196 : Cond.methodLink RX11 239 yX11_keepAct ∈ GW := gw_t3 204 rfl rfl
theorem gw_197 : Cond.methodLink RX11 242 yX3_remove ∈ GW := gw_t3 221 rfl rfl
theorem gw_198 : Cond.methodLink RX11 245 yX3_addLine ∈ GW := gw_t3 226 rfl rfl
theorem gw_199 : Cond.methodLink RX11 249 yX3_takeLine ∈ GW := gw_t3 231 rfl rfl
theorem gw_200 : Cond.methodLink RX11 252 yX3_changeWeight ∈ GW := gw_t3 239 rfl rfl
theorem gw_201 : Cond.fieldLink RX11 50 "RingCutters" "draws" "LRingCutters$Draws;" ∈ GW := gw_t2 0 rfl rfl
theorem gw_202 : Cond.methodLink RX11 288 yX1_below ∈ GW := gw_t4 8 rfl rfl
theorem gw_203 : Cond.fieldLink RX11 255 "RingCutters$Draws" "seed" "I" ∈ GW := gw_t1 163 rfl rfl
theorem gw_204 : Cond.methodLink RX11 258 yX11_doDeed ∈ GW := gw_t4 4 rfl rfl
theorem gw_205 : Cond.methodLink RX11 261 yX5_giveLatest ∈ GW := gw_t4 17 rfl rfl
theorem gw_206 : Cond.fieldLink RX11 44 "RingCutters" "imageOne" "LRingCutters$Kept;" ∈ GW := gw_t1 239 rfl rfl
theorem gw_207 : Cond.fieldLink RX11 40 "RingCutters" "imageZero" "LRingCutters$Kept;" ∈ GW := gw_t1 238 rfl rfl
theorem gw_208 : Cond.methodLink RX11 265 yX11_keptAt ∈ GW := gw_t4 25 rfl rfl
theorem gw_209 : Cond.fieldLink RX11 269 "RingCutters$Kept" "copy" "LRingCutters$Net;" ∈ GW := gw_t1 149 rfl rfl
theorem gw_210 : Cond.fieldLink RX11 272 "RingCutters$Kept" "filled" "Z" ∈ GW := gw_t1 150 rfl rfl
theorem gw_211 : Cond.fieldLink RX12 1 "RingCuttersModel" "thrown" "I" ∈ GW := gw_t4 152 rfl rfl
theorem gw_212 : Cond.methodLink RX12 7 yX12_has ∈ GW := gw_t5 60 rfl rfl
theorem gw_213 : Cond.fieldLink RX12 11 "RingCuttersModel" "tape" "[I" ∈ GW := gw_t4 153 rfl rfl
theorem gw_214 : Cond.fieldLink RX12 15 "RingCuttersModel" "taped" "I" ∈ GW := gw_t4 154 rfl rfl
theorem gw_215 : Cond.methodLink RX12 18 yX12_lay ∈ GW := gw_t4 138 rfl rfl
theorem gw_216 : Cond.fieldLink RX12 22 "RingCuttersModel" "size" "I" ∈ GW := gw_t4 155 rfl rfl
theorem gw_217 : Cond.fieldLink RX12 25 "RingCuttersModel" "to" "I" ∈ GW := gw_t4 156 rfl rfl
theorem gw_218 : Cond.fieldLink RX12 28 "RingCuttersModel" "from" "I" ∈ GW := gw_t4 157 rfl rfl
theorem gw_219 : Cond.methodLink RX12 34 yX12_isLetter ∈ GW := gw_t5 11 rfl rfl
theorem gw_220 : Cond.fieldLink RX12 41 "RingCuttersModel" "word" "J" ∈ GW := gw_t4 162 rfl rfl
theorem gw_221 : Cond.fieldLink RX12 45 "RingCuttersModel" "number" "I" ∈ GW := gw_t4 159 rfl rfl
theorem gw_222 : Cond.methodLink RX12 48 yX12_tapeAt ∈ GW := gw_t5 17 rfl rfl
theorem gw_223 : Cond.constantLong RX12 52 (27) ∈ GW := gw_t5 21 rfl rfl
theorem gw_224 : Cond.constantLong RX12 54 (96) ∈ GW := gw_t5 22 rfl rfl
theorem gw_225 : Cond.methodLink RX12 38 yX12_isDigit ∈ GW := gw_t5 14 rfl rfl
theorem gw_226 : Cond.fieldLink RX12 31 "RingCuttersModel" "kind" "I" ∈ GW := gw_t4 158 rfl rfl
theorem gw_227 : Cond.methodLink RX12 56 yX12_spelt ∈ GW := gw_t5 27 rfl rfl
theorem gw_228 : Cond.methodLink RX12 60 yX12_isPointWord ∈ GW := gw_t5 23 rfl rfl
theorem gw_229 : Cond.methodLink RX12 64 yX12_isLineWord ∈ GW := gw_t5 42 rfl rfl
theorem gw_230 : Cond.fieldLink RX12 67 "RingCuttersModel" "fault" "I" ∈ GW := gw_t4 160 rfl rfl
theorem gw_231 : Cond.fieldLink RX12 70 "RingCuttersModel" "place" "I" ∈ GW := gw_t4 161 rfl rfl
theorem gw_232 : Cond.methodLink RX12 120 yX12_between ∈ GW := gw_t5 66 rfl rfl
theorem gw_233 : Cond.methodLink RX12 124 yX12_ends ∈ GW := gw_t5 63 rfl rfl
theorem gw_234 : Cond.fieldLink RX12 82 "RingCuttersModel" "read" "[I" ∈ GW := gw_t4 164 rfl rfl
theorem gw_235 : Cond.fieldLink RX12 97 "RingCuttersModel" "names" "[J" ∈ GW := gw_t4 169 rfl rfl
theorem gw_236 : Cond.methodLink RX12 130 yX12_next ∈ GW := gw_t5 7 rfl rfl
theorem gw_237 : Cond.methodLink RX12 133 yX12_isName ∈ GW := gw_t5 38 rfl rfl
theorem gw_238 : Cond.methodLink RX12 136 yX12_named ∈ GW := gw_t5 46 rfl rfl
theorem gw_239 : Cond.methodLink RX12 140 yX12_isIn ∈ GW := gw_t5 50 rfl rfl
theorem gw_240 : Cond.methodLink RX12 127 yX12_bad ∈ GW := gw_t5 34 rfl rfl
theorem gw_241 : Cond.methodLink RX12 144 yX12_lineMany ∈ GW := gw_t5 57 rfl rfl
theorem gw_242 : Cond.methodLink RX12 148 yX12_allEnds ∈ GW := gw_t5 69 rfl rfl
theorem gw_243 : Cond.methodLink RX12 151 yX12_adds ∈ GW := gw_t5 72 rfl rfl
theorem gw_244 : Cond.fieldLink RX12 79 "RingCuttersModel" "now" "[I" ∈ GW := gw_t4 163 rfl rfl
theorem gw_245 : Cond.methodLink RX12 164 yX12_copy ∈ GW := gw_t5 79 rfl rfl
theorem gw_246 : Cond.fieldLink RX12 168 "RingCuttersModel" "snapMany" "I" ∈ GW := gw_t4 171 rfl rfl
theorem gw_247 : Cond.methodLink RX12 161 yX12_readEnd ∈ GW := gw_t5 75 rfl rfl
theorem gw_248 : Cond.methodLink RX12 158 yX12_readLine ∈ GW := gw_t5 53 rfl rfl
theorem gw_249 : Cond.methodLink RX12 155 yX12_readPoint ∈ GW := gw_t5 30 rfl rfl
theorem gw_250 : Cond.methodLink RX12 171 yX12_there ∈ GW := gw_t5 90 rfl rfl
theorem gw_251 : Cond.methodLink RX12 174 yX12_least ∈ GW := gw_t5 98 rfl rfl
theorem gw_252 : Cond.methodLink RX12 177 yX12_partOf ∈ GW := gw_t5 101 rfl rfl
theorem gw_253 : Cond.methodLink RX12 181 yX12_parts ∈ GW := gw_t5 94 rfl rfl
theorem gw_254 : Cond.methodLink RX12 184 yX12_weightOf ∈ GW := gw_t5 105 rfl rfl
theorem gw_255 : Cond.methodLink RX12 187 yX12_isThere ∈ GW := gw_t5 113 rfl rfl
theorem gw_256 : Cond.methodLink RX12 190 yX12_refuse ∈ GW := gw_t5 117 rfl rfl
theorem gw_257 : Cond.methodLink RX12 193 yX12_bits ∈ GW := gw_t5 141 rfl rfl
theorem gw_258 : Cond.methodLink RX12 196 yX12_isOpen ∈ GW := gw_t5 137 rfl rfl
theorem gw_259 : Cond.methodLink RX12 199 yX12_areThere ∈ GW := gw_t5 129 rfl rfl
theorem gw_260 : Cond.methodLink RX12 202 yX12_isCut ∈ GW := gw_t5 133 rfl rfl
theorem gw_261 : Cond.methodLink RX12 205 yX12_bestCut ∈ GW := gw_t5 148 rfl rfl
theorem gw_262 : Cond.methodLink RX12 209 yX12_tellsCut ∈ GW := gw_t5 152 rfl rfl
theorem gw_263 : Cond.methodLink RX12 215 yX12_goes ∈ GW := gw_t5 180 rfl rfl
theorem gw_264 : Cond.fieldLink RX12 212 "RingCuttersModel" "ringMany" "J" ∈ GW := gw_t4 173 rfl rfl
theorem gw_265 : Cond.fieldLink RX12 105 "RingCuttersModel" "isRing" "[Z" ∈ GW := gw_t4 172 rfl rfl
theorem gw_266 : Cond.constantLong RX12 219 (2) ∈ GW := gw_t5 184 rfl rfl
theorem gw_267 : Cond.methodLink RX12 221 yX12_laysRings ∈ GW := gw_t5 176 rfl rfl
theorem gw_268 : Cond.fieldLink RX12 108 "RingCuttersModel" "apart" "[I" ∈ GW := gw_t4 174 rfl rfl
theorem gw_269 : Cond.methodLink RX12 224 yX12_laysApart ∈ GW := gw_t5 193 rfl rfl
theorem gw_270 : Cond.methodLink RX12 227 yX12_divisor ∈ GW := gw_t5 221 rfl rfl
theorem gw_271 : Cond.fieldLink RX12 111 "RingCuttersModel" "above" "[J" ∈ GW := gw_t4 175 rfl rfl
theorem gw_272 : Cond.fieldLink RX12 114 "RingCuttersModel" "below" "[J" ∈ GW := gw_t4 176 rfl rfl
theorem gw_273 : Cond.fieldLink RX12 231 "RingCuttersModel" "boundAbove" "J" ∈ GW := gw_t4 178 rfl rfl
theorem gw_274 : Cond.fieldLink RX12 234 "RingCuttersModel" "boundBelow" "J" ∈ GW := gw_t4 179 rfl rfl
theorem gw_275 : Cond.methodLink RX12 237 yX12_thinRing ∈ GW := gw_t5 217 rfl rfl
theorem gw_276 : Cond.methodLink RX12 244 yX12_bounds ∈ GW := gw_t5 228 rfl rfl
theorem gw_277 : Cond.methodLink RX12 240 yX12_takes ∈ GW := gw_t5 224 rfl rfl
theorem gw_278 : Cond.fieldLink RX12 248 "RingCuttersModel" "piled" "I" ∈ GW := gw_t4 180 rfl rfl
theorem gw_279 : Cond.methodLink RX12 251 yX12_trimmed ∈ GW := gw_t5 209 rfl rfl
theorem gw_280 : Cond.fieldLink RX12 117 "RingCuttersModel" "pile" "[I" ∈ GW := gw_t4 177 rfl rfl
theorem gw_281 : Cond.methodLink RX12 254 yX12_sinks ∈ GW := gw_t5 213 rfl rfl
theorem gw_282 : Cond.methodLink RX12 257 yX12_laysNear ∈ GW := gw_t5 205 rfl rfl
theorem gw_283 : Cond.fieldLink RX12 88 "RingCuttersModel" "snaps" "[I" ∈ GW := gw_t4 166 rfl rfl
theorem gw_284 : Cond.fieldLink RX12 94 "RingCuttersModel" "live" "[I" ∈ GW := gw_t4 168 rfl rfl
theorem gw_285 : Cond.fieldLink RX12 91 "RingCuttersModel" "before" "[I" ∈ GW := gw_t4 167 rfl rfl
theorem gw_286 : Cond.methodLink RX12 260 yX12_snap ∈ GW := gw_t6 31 rfl rfl
theorem gw_287 : Cond.methodLink RX12 269 yX12_one ∈ GW := gw_t6 16 rfl rfl
theorem gw_288 : Cond.methodLink RX12 272 yX12_other ∈ GW := gw_t6 20 rfl rfl
theorem gw_289 : Cond.methodLink RX12 266 yX12_thick ∈ GW := gw_t6 12 rfl rfl
theorem gw_290 : Cond.methodLink RX12 263 yX12_mayStep ∈ GW := gw_t6 8 rfl rfl
theorem gw_291 : Cond.methodLink RX12 275 yX12_first ∈ GW := gw_t6 4 rfl rfl
theorem gw_292 : Cond.methodLink RX12 278 yX12_leaves ∈ GW := gw_t6 24 rfl rfl
theorem gw_293 : Cond.methodLink RX12 282 yX12_steps ∈ GW := gw_t6 0 rfl rfl
theorem gw_294 : Cond.methodLink RX12 285 yX12_stay ∈ GW := gw_t6 27 rfl rfl
theorem gw_295 : Cond.methodLink RX12 288 yX12_mayJoin ∈ GW := gw_t6 47 rfl rfl
theorem gw_296 : Cond.fieldLink RX12 291 "RingCuttersModel" "seed" "I" ∈ GW := gw_t4 181 rfl rfl
theorem gw_297 : Cond.constant RX12 294 (1103515245) ∈ GW := gw_t6 71 rfl rfl
theorem gw_298 : Cond.methodLink RX12 295 yX12_draw ∈ GW := gw_t6 67 rfl rfl
theorem gw_299 : Cond.methodLink RX12 298 yX12_does ∈ GW := gw_t6 63 rfl rfl
theorem gw_300 : Cond.fieldLink RX12 85 "RingCuttersModel" "kept" "[I" ∈ GW := gw_t4 165 rfl rfl
theorem gw_301 : Cond.fieldLink RX12 101 "RingCuttersModel" "isKept" "[Z" ∈ GW := gw_t4 170 rfl rfl
theorem gw_302 : Cond.code yJ6_bitCount_0f7a4 cJ6_bitCount_0f7a4 1 (some .int) ∈ GW := gw_t2 188 rfl rfl
theorem gw_303 : Cond.static yJ6_bitCount_0f7a4 ∈ GW := gw_t2 187 rfl rfl
theorem gw_304 : Cond.initialized RJ6 ∈ GW := gw_t1 13 rfl rfl
theorem gw_305 : Cond.code yX0_begin cX0_begin 3 none ∈ GW := gw_t3 122 rfl rfl
theorem gw_306 : Cond.instanceMethod yX0_begin ∈ GW := gw_t3 120 rfl rfl
theorem gw_307 : Cond.selects RX0 yX0_begin yX0_begin ∈ GW := gw_t3 121 rfl rfl
theorem gw_308 : Cond.initialized RX0 ∈ GW := gw_t1 10 rfl rfl
theorem gw_309 : Cond.code yX0_boundAbove cX0_boundAbove 3 (some .long) ∈ GW := gw_t4 121 rfl rfl
theorem gw_310 : Cond.instanceMethod yX0_boundAbove ∈ GW := gw_t4 119 rfl rfl
theorem gw_311 : Cond.selects RX0 yX0_boundAbove yX0_boundAbove ∈ GW := gw_t4 120 rfl rfl
theorem gw_312 : Cond.code yX0_boundBelow cX0_boundBelow 3 (some .long) ∈ GW := gw_t4 129 rfl rfl
theorem gw_313 : Cond.instanceMethod yX0_boundBelow ∈ GW := gw_t4 127 rfl rfl
theorem gw_314 : Cond.selects RX0 yX0_boundBelow yX0_boundBelow ∈ GW := gw_t4 128 rfl rfl
theorem gw_315 : Cond.code yX0_commonDivisor cX0_commonDivisor 8 (some .long) ∈ GW := gw_t4 125 rfl rfl
theorem gw_316 : Cond.instanceMethod yX0_commonDivisor ∈ GW := gw_t4 123 rfl rfl
theorem gw_317 : Cond.selects RX0 yX0_commonDivisor yX0_commonDivisor ∈ GW := gw_t4 124 rfl rfl
theorem gw_318 : Cond.code yX0_giveBack cX0_giveBack 5 none ∈ GW := gw_t3 160 rfl rfl
theorem gw_319 : Cond.instanceMethod yX0_giveBack ∈ GW := gw_t3 158 rfl rfl
theorem gw_320 : Cond.selects RX0 yX0_giveBack yX0_giveBack ∈ GW := gw_t3 159 rfl rfl
theorem gw_321 : Cond.code yX0_leastOpenRing cX0_leastOpenRing 8 (some .int) ∈ GW := gw_t3 133 rfl rfl
theorem gw_322 : Cond.instanceMethod yX0_leastOpenRing ∈ GW := gw_t3 131 rfl rfl
theorem gw_323 : Cond.selects RX0 yX0_leastOpenRing yX0_leastOpenRing ∈ GW := gw_t3 132 rfl rfl
theorem gw_324 : Cond.code yX0_pileWeightless cX0_pileWeightless 2 none ∈ GW := gw_t3 156 rfl rfl
theorem gw_325 : Cond.instanceMethod yX0_pileWeightless ∈ GW := gw_t3 154 rfl rfl
theorem gw_326 : Cond.selects RX0 yX0_pileWeightless yX0_pileWeightless ∈ GW := gw_t3 155 rfl rfl
theorem gw_327 : Cond.code yX0_run cX0_run 5 none ∈ GW := gw_t3 118 rfl rfl
theorem gw_328 : Cond.instanceMethod yX0_run ∈ GW := gw_t3 116 rfl rfl
theorem gw_329 : Cond.selects RX0 yX0_run yX0_run ∈ GW := gw_t3 117 rfl rfl
theorem gw_330 : Cond.code yX0_strip cX0_strip 5 none ∈ GW := gw_t3 127 rfl rfl
theorem gw_331 : Cond.instanceMethod yX0_strip ∈ GW := gw_t3 125 rfl rfl
theorem gw_332 : Cond.selects RX0 yX0_strip yX0_strip ∈ GW := gw_t3 126 rfl rfl
theorem gw_333 : Cond.code yX0_takeFromAll cX0_takeFromAll 7 none ∈ GW := gw_t3 147 rfl rfl
theorem gw_334 : Cond.instanceMethod yX0_takeFromAll ∈ GW := gw_t3 145 rfl rfl
theorem gw_335 : Cond.selects RX0 yX0_takeFromAll yX0_takeFromAll ∈ GW := gw_t3 146 rfl rfl
theorem gw_336 : Cond.code yX0_takeFromRing cX0_takeFromRing 5 none ∈ GW := gw_t3 139 rfl rfl
theorem gw_337 : Cond.instanceMethod yX0_takeFromRing ∈ GW := gw_t3 137 rfl rfl
theorem gw_338 : Cond.selects RX0 yX0_takeFromRing yX0_takeFromRing ∈ GW := gw_t3 138 rfl rfl
theorem gw_339 : Cond.code yX10_append cX10_append 3 none ∈ GW := gw_t2 48 rfl rfl
theorem gw_340 : Cond.instanceMethod yX10_append ∈ GW := gw_t2 46 rfl rfl
theorem gw_341 : Cond.selects RX10 yX10_append yX10_append ∈ GW := gw_t2 47 rfl rfl
theorem gw_342 : Cond.initialized RX10 ∈ GW := gw_t1 2 rfl rfl
theorem gw_343 : Cond.code yX10_byteAt cX10_byteAt 2 (some .int) ∈ GW := gw_t2 71 rfl rfl
theorem gw_344 : Cond.instanceMethod yX10_byteAt ∈ GW := gw_t2 69 rfl rfl
theorem gw_345 : Cond.selects RX10 yX10_byteAt yX10_byteAt ∈ GW := gw_t2 70 rfl rfl
theorem gw_346 : Cond.code yX10_hasRoom cX10_hasRoom 1 (some .boolean) ∈ GW := gw_t2 44 rfl rfl
theorem gw_347 : Cond.instanceMethod yX10_hasRoom ∈ GW := gw_t2 42 rfl rfl
theorem gw_348 : Cond.selects RX10 yX10_hasRoom yX10_hasRoom ∈ GW := gw_t2 43 rfl rfl
theorem gw_349 : Cond.code yX11_cuts cX11_cuts 2 (some .int) ∈ GW := gw_t2 209 rfl rfl
theorem gw_350 : Cond.instanceMethod yX11_cuts ∈ GW := gw_t2 207 rfl rfl
theorem gw_351 : Cond.selects RX11 yX11_cuts yX11_cuts ∈ GW := gw_t2 208 rfl rfl
theorem gw_352 : Cond.initialized RX11 ∈ GW := gw_t1 1 rfl rfl
theorem gw_353 : Cond.code yX11_discountNow cX11_discountNow 1 (some (.object "RingCutters$Discount")) ∈ GW := gw_t3 114 rfl rfl
theorem gw_354 : Cond.instanceMethod yX11_discountNow ∈ GW := gw_t3 113 rfl rfl
theorem gw_355 : Cond.selects RX11 yX11_discountNow yX11_discountNow ∈ GW := gw_s 5 14 rfl rfl
theorem gw_356 : Cond.code yX11_doDeed cX11_doDeed 4 (some .boolean) ∈ GW := gw_t4 7 rfl rfl
theorem gw_357 : Cond.instanceMethod yX11_doDeed ∈ GW := gw_t4 6 rfl rfl
theorem gw_358 : Cond.selects RX11 yX11_doDeed yX11_doDeed ∈ GW := gw_s 7 14 rfl rfl
theorem gw_359 : Cond.code yX11_drawn cX11_drawn 5 (some .int) ∈ GW := gw_t4 3 rfl rfl
theorem gw_360 : Cond.instanceMethod yX11_drawn ∈ GW := gw_t4 1 rfl rfl
theorem gw_361 : Cond.selects RX11 yX11_drawn yX11_drawn ∈ GW := gw_t4 2 rfl rfl
theorem gw_362 : Cond.code yX11_drop cX11_drop 2 (some .int) ∈ GW := gw_t3 220 rfl rfl
theorem gw_363 : Cond.instanceMethod yX11_drop ∈ GW := gw_t3 218 rfl rfl
theorem gw_364 : Cond.selects RX11 yX11_drop yX11_drop ∈ GW := gw_t3 219 rfl rfl
theorem gw_365 : Cond.code yX11_end cX11_end 2 (some .boolean) ∈ GW := gw_t2 52 rfl rfl
theorem gw_366 : Cond.instanceMethod yX11_end ∈ GW := gw_t2 50 rfl rfl
theorem gw_367 : Cond.selects RX11 yX11_end yX11_end ∈ GW := gw_t2 51 rfl rfl
theorem gw_368 : Cond.code yX11_fault cX11_fault 1 (some .int) ∈ GW := gw_t2 170 rfl rfl
theorem gw_369 : Cond.instanceMethod yX11_fault ∈ GW := gw_t2 168 rfl rfl
theorem gw_370 : Cond.selects RX11 yX11_fault yX11_fault ∈ GW := gw_t2 169 rfl rfl
theorem gw_371 : Cond.code yX11_feed cX11_feed 6 (some .int) ∈ GW := gw_t2 40 rfl rfl
theorem gw_372 : Cond.instanceMethod yX11_feed ∈ GW := gw_t2 38 rfl rfl
theorem gw_373 : Cond.selects RX11 yX11_feed yX11_feed ∈ GW := gw_t2 39 rfl rfl
theorem gw_374 : Cond.code yX11_fewest cX11_fewest 2 (some .int) ∈ GW := gw_t3 9 rfl rfl
theorem gw_375 : Cond.instanceMethod yX11_fewest ∈ GW := gw_t3 7 rfl rfl
theorem gw_376 : Cond.selects RX11 yX11_fewest yX11_fewest ∈ GW := gw_t3 8 rfl rfl
theorem gw_377 : Cond.code yX11_image cX11_image 3 (some .boolean) ∈ GW := gw_t4 24 rfl rfl
theorem gw_378 : Cond.instanceMethod yX11_image ∈ GW := gw_t4 22 rfl rfl
theorem gw_379 : Cond.selects RX11 yX11_image yX11_image ∈ GW := gw_t4 23 rfl rfl
theorem gw_380 : Cond.code yX11_join cX11_join 3 (some .int) ∈ GW := gw_t3 225 rfl rfl
theorem gw_381 : Cond.instanceMethod yX11_join ∈ GW := gw_t3 223 rfl rfl
theorem gw_382 : Cond.selects RX11 yX11_join yX11_join ∈ GW := gw_t3 224 rfl rfl
theorem gw_383 : Cond.code yX11_keepAct cX11_keepAct 1 none ∈ GW := gw_t3 207 rfl rfl
theorem gw_384 : Cond.instanceMethod yX11_keepAct ∈ GW := gw_t3 206 rfl rfl
theorem gw_385 : Cond.selects RX11 yX11_keepAct yX11_keepAct ∈ GW := gw_s 6 14 rfl rfl
theorem gw_386 : Cond.code yX11_keptAt cX11_keptAt 2 (some (.object "RingCutters$Kept")) ∈ GW := gw_t4 28 rfl rfl
theorem gw_387 : Cond.instanceMethod yX11_keptAt ∈ GW := gw_t4 27 rfl rfl
theorem gw_388 : Cond.selects RX11 yX11_keptAt yX11_keptAt ∈ GW := gw_s 8 14 rfl rfl
theorem gw_389 : Cond.code yX11_lightest cX11_lightest 2 (some .int) ∈ GW := gw_t3 22 rfl rfl
theorem gw_390 : Cond.instanceMethod yX11_lightest ∈ GW := gw_t3 20 rfl rfl
theorem gw_391 : Cond.selects RX11 yX11_lightest yX11_lightest ∈ GW := gw_t3 21 rfl rfl
theorem gw_392 : Cond.code yX11_lightestCut cX11_lightestCut 6 (some .int) ∈ GW := gw_t3 26 rfl rfl
theorem gw_393 : Cond.instanceMethod yX11_lightestCut ∈ GW := gw_t3 25 rfl rfl
theorem gw_394 : Cond.selects RX11 yX11_lightestCut yX11_lightestCut ∈ GW := gw_s 3 14 rfl rfl
theorem gw_395 : Cond.code yX11_lines cX11_lines 3 (some .int) ∈ GW := gw_t2 203 rfl rfl
theorem gw_396 : Cond.instanceMethod yX11_lines ∈ GW := gw_t2 201 rfl rfl
theorem gw_397 : Cond.selects RX11 yX11_lines yX11_lines ∈ GW := gw_t2 202 rfl rfl
theorem gw_398 : Cond.code yX11_markChanged cX11_markChanged 1 none ∈ GW := gw_t2 166 rfl rfl
theorem gw_399 : Cond.instanceMethod yX11_markChanged ∈ GW := gw_t2 165 rfl rfl
theorem gw_400 : Cond.selects RX11 yX11_markChanged yX11_markChanged ∈ GW := gw_s 0 14 rfl rfl
theorem gw_401 : Cond.code yX11_near cX11_near 1 (some .int) ∈ GW := gw_t3 110 rfl rfl
theorem gw_402 : Cond.instanceMethod yX11_near ∈ GW := gw_t3 108 rfl rfl
theorem gw_403 : Cond.selects RX11 yX11_near yX11_near ∈ GW := gw_t3 109 rfl rfl
theorem gw_404 : Cond.code yX11_net cX11_net 1 (some .int) ∈ GW := gw_t2 56 rfl rfl
theorem gw_405 : Cond.instanceMethod yX11_net ∈ GW := gw_t2 54 rfl rfl
theorem gw_406 : Cond.selects RX11 yX11_net yX11_net ∈ GW := gw_t2 55 rfl rfl
theorem gw_407 : Cond.code yX11_now cX11_now 2 (some .int) ∈ GW := gw_t2 174 rfl rfl
theorem gw_408 : Cond.instanceMethod yX11_now ∈ GW := gw_t2 172 rfl rfl
theorem gw_409 : Cond.selects RX11 yX11_now yX11_now ∈ GW := gw_t2 173 rfl rfl
theorem gw_410 : Cond.code yX11_pack cX11_pack 2 (some .int) ∈ GW := gw_t3 98 rfl rfl
theorem gw_411 : Cond.instanceMethod yX11_pack ∈ GW := gw_t3 96 rfl rfl
theorem gw_412 : Cond.selects RX11 yX11_pack yX11_pack ∈ GW := gw_t3 97 rfl rfl
theorem gw_413 : Cond.code yX11_packed cX11_packed 1 (some .int) ∈ GW := gw_t3 68 rfl rfl
theorem gw_414 : Cond.instanceMethod yX11_packed ∈ GW := gw_t3 66 rfl rfl
theorem gw_415 : Cond.selects RX11 yX11_packed yX11_packed ∈ GW := gw_t3 67 rfl rfl
theorem gw_416 : Cond.code yX11_packingNow cX11_packingNow 1 (some (.object "RingCutters$Packing")) ∈ GW := gw_t3 72 rfl rfl
theorem gw_417 : Cond.instanceMethod yX11_packingNow ∈ GW := gw_t3 71 rfl rfl
theorem gw_418 : Cond.selects RX11 yX11_packingNow yX11_packingNow ∈ GW := gw_s 4 14 rfl rfl
theorem gw_419 : Cond.code yX11_part cX11_part 3 (some .int) ∈ GW := gw_t3 230 rfl rfl
theorem gw_420 : Cond.instanceMethod yX11_part ∈ GW := gw_t3 228 rfl rfl
theorem gw_421 : Cond.selects RX11 yX11_part yX11_part ∈ GW := gw_t3 229 rfl rfl
theorem gw_422 : Cond.code yX11_restore cX11_restore 3 (some .boolean) ∈ GW := gw_t4 32 rfl rfl
theorem gw_423 : Cond.instanceMethod yX11_restore ∈ GW := gw_t4 30 rfl rfl
theorem gw_424 : Cond.selects RX11 yX11_restore yX11_restore ∈ GW := gw_t4 31 rfl rfl
theorem gw_425 : Cond.code yX11_rings cX11_rings 1 (some .long) ∈ GW := gw_t3 42 rfl rfl
theorem gw_426 : Cond.instanceMethod yX11_rings ∈ GW := gw_t3 40 rfl rfl
theorem gw_427 : Cond.selects RX11 yX11_rings yX11_rings ∈ GW := gw_t3 41 rfl rfl
theorem gw_428 : Cond.code yX11_ringsNow cX11_ringsNow 1 (some (.object "RingCutters$Rings")) ∈ GW := gw_t2 217 rfl rfl
theorem gw_429 : Cond.instanceMethod yX11_ringsNow ∈ GW := gw_t2 216 rfl rfl
theorem gw_430 : Cond.selects RX11 yX11_ringsNow yX11_ringsNow ∈ GW := gw_s 1 14 rfl rfl
theorem gw_431 : Cond.code yX11_shortest cX11_shortest 1 (some .int) ∈ GW := gw_t3 56 rfl rfl
theorem gw_432 : Cond.instanceMethod yX11_shortest ∈ GW := gw_t3 54 rfl rfl
theorem gw_433 : Cond.selects RX11 yX11_shortest yX11_shortest ∈ GW := gw_t3 55 rfl rfl
theorem gw_434 : Cond.code yX11_shrink cX11_shrink 2 (some .int) ∈ GW := gw_t3 166 rfl rfl
theorem gw_435 : Cond.instanceMethod yX11_shrink ∈ GW := gw_t3 164 rfl rfl
theorem gw_436 : Cond.selects RX11 yX11_shrink yX11_shrink ∈ GW := gw_t3 165 rfl rfl
theorem gw_437 : Cond.code yX11_shrinkAll cX11_shrinkAll 3 (some .int) ∈ GW := gw_t3 216 rfl rfl
theorem gw_438 : Cond.instanceMethod yX11_shrinkAll ∈ GW := gw_t3 214 rfl rfl
theorem gw_439 : Cond.selects RX11 yX11_shrinkAll yX11_shrinkAll ∈ GW := gw_t3 215 rfl rfl
theorem gw_440 : Cond.code yX11_sparing cX11_sparing 2 (some .int) ∈ GW := gw_t3 34 rfl rfl
theorem gw_441 : Cond.instanceMethod yX11_sparing ∈ GW := gw_t3 32 rfl rfl
theorem gw_442 : Cond.selects RX11 yX11_sparing yX11_sparing ∈ GW := gw_t3 33 rfl rfl
theorem gw_443 : Cond.code yX11_tellSet cX11_tellSet 3 (some .int) ∈ GW := gw_t3 17 rfl rfl
theorem gw_444 : Cond.instanceMethod yX11_tellSet ∈ GW := gw_t3 16 rfl rfl
theorem gw_445 : Cond.selects RX11 yX11_tellSet yX11_tellSet ∈ GW := gw_s 2 14 rfl rfl
theorem gw_446 : Cond.code yX11_those cX11_those 8 (some .int) ∈ GW := gw_t3 30 rfl rfl
theorem gw_447 : Cond.instanceMethod yX11_those ∈ GW := gw_t3 28 rfl rfl
theorem gw_448 : Cond.selects RX11 yX11_those yX11_those ∈ GW := gw_t3 29 rfl rfl
theorem gw_449 : Cond.code yX11_undo cX11_undo 1 (some .int) ∈ GW := gw_t4 16 rfl rfl
theorem gw_450 : Cond.instanceMethod yX11_undo ∈ GW := gw_t4 14 rfl rfl
theorem gw_451 : Cond.selects RX11 yX11_undo yX11_undo ∈ GW := gw_t4 15 rfl rfl
theorem gw_452 : Cond.code yX11_upTo cX11_upTo 3 (some .int) ∈ GW := gw_t3 38 rfl rfl
theorem gw_453 : Cond.instanceMethod yX11_upTo ∈ GW := gw_t3 36 rfl rfl
theorem gw_454 : Cond.selects RX11 yX11_upTo yX11_upTo ∈ GW := gw_t3 37 rfl rfl
theorem gw_455 : Cond.code yX11_weigh cX11_weigh 3 (some .int) ∈ GW := gw_t3 238 rfl rfl
theorem gw_456 : Cond.instanceMethod yX11_weigh ∈ GW := gw_t3 236 rfl rfl
theorem gw_457 : Cond.selects RX11 yX11_weigh yX11_weigh ∈ GW := gw_t3 237 rfl rfl
theorem gw_458 : Cond.code yX12_adds cX12_adds 4 none ∈ GW := gw_t5 74 rfl rfl
theorem gw_459 : Cond.static yX12_adds ∈ GW := gw_t5 73 rfl rfl
theorem gw_460 : Cond.initialized RX12 ∈ GW := gw_t1 11 rfl rfl
theorem gw_461 : Cond.code yX12_allEnds cX12_allEnds 2 (some .int) ∈ GW := gw_t5 71 rfl rfl
theorem gw_462 : Cond.static yX12_allEnds ∈ GW := gw_t5 70 rfl rfl
theorem gw_463 : Cond.code yX12_areThere cX12_areThere 2 (some .boolean) ∈ GW := gw_t5 132 rfl rfl
theorem gw_464 : Cond.instanceMethod yX12_areThere ∈ GW := gw_t5 131 rfl rfl
theorem gw_465 : Cond.selects RX12 yX12_areThere yX12_areThere ∈ GW := gw_s 27 30 rfl rfl
theorem gw_466 : Cond.code yX12_bad cX12_bad 2 (some .boolean) ∈ GW := gw_t5 37 rfl rfl
theorem gw_467 : Cond.instanceMethod yX12_bad ∈ GW := gw_t5 36 rfl rfl
theorem gw_468 : Cond.selects RX12 yX12_bad yX12_bad ∈ GW := gw_s 15 30 rfl rfl
theorem gw_469 : Cond.code yX12_bestCut cX12_bestCut 8 (some .int) ∈ GW := gw_t5 151 rfl rfl
theorem gw_470 : Cond.instanceMethod yX12_bestCut ∈ GW := gw_t5 150 rfl rfl
theorem gw_471 : Cond.selects RX12 yX12_bestCut yX12_bestCut ∈ GW := gw_s 30 30 rfl rfl
theorem gw_472 : Cond.code yX12_between cX12_between 3 (some .int) ∈ GW := gw_t5 68 rfl rfl
theorem gw_473 : Cond.static yX12_between ∈ GW := gw_t5 67 rfl rfl
theorem gw_474 : Cond.code yX12_bits cX12_bits 3 (some .int) ∈ GW := gw_t5 143 rfl rfl
theorem gw_475 : Cond.static yX12_bits ∈ GW := gw_t5 142 rfl rfl
theorem gw_476 : Cond.code yX12_bound cX12_bound 2 (some .long) ∈ GW := gw_t5 235 rfl rfl
theorem gw_477 : Cond.instanceMethod yX12_bound ∈ GW := gw_t5 233 rfl rfl
theorem gw_478 : Cond.selects RX12 yX12_bound yX12_bound ∈ GW := gw_t5 234 rfl rfl
theorem gw_479 : Cond.code yX12_bounds cX12_bounds 12 none ∈ GW := gw_t5 231 rfl rfl
theorem gw_480 : Cond.instanceMethod yX12_bounds ∈ GW := gw_t5 230 rfl rfl
theorem gw_481 : Cond.selects RX12 yX12_bounds yX12_bounds ∈ GW := gw_s 40 30 rfl rfl
theorem gw_482 : Cond.code yX12_copy cX12_copy 5 none ∈ GW := gw_t5 81 rfl rfl
theorem gw_483 : Cond.static yX12_copy ∈ GW := gw_t5 80 rfl rfl
theorem gw_484 : Cond.code yX12_cuts cX12_cuts 2 (some .int) ∈ GW := gw_t5 128 rfl rfl
theorem gw_485 : Cond.instanceMethod yX12_cuts ∈ GW := gw_t5 126 rfl rfl
theorem gw_486 : Cond.selects RX12 yX12_cuts yX12_cuts ∈ GW := gw_t5 127 rfl rfl
theorem gw_487 : Cond.code yX12_divisor cX12_divisor 4 (some .long) ∈ GW := gw_t5 223 rfl rfl
theorem gw_488 : Cond.static yX12_divisor ∈ GW := gw_t5 222 rfl rfl
theorem gw_489 : Cond.code yX12_does cX12_does 5 (some .boolean) ∈ GW := gw_t6 66 rfl rfl
theorem gw_490 : Cond.instanceMethod yX12_does ∈ GW := gw_t6 65 rfl rfl
theorem gw_491 : Cond.selects RX12 yX12_does yX12_does ∈ GW := gw_s 50 30 rfl rfl
theorem gw_492 : Cond.code yX12_draw cX12_draw 2 (some .int) ∈ GW := gw_t6 70 rfl rfl
theorem gw_493 : Cond.instanceMethod yX12_draw ∈ GW := gw_t6 69 rfl rfl
theorem gw_494 : Cond.selects RX12 yX12_draw yX12_draw ∈ GW := gw_s 51 30 rfl rfl
theorem gw_495 : Cond.code yX12_drawn cX12_drawn 5 (some .int) ∈ GW := gw_t6 62 rfl rfl
theorem gw_496 : Cond.instanceMethod yX12_drawn ∈ GW := gw_t6 60 rfl rfl
theorem gw_497 : Cond.selects RX12 yX12_drawn yX12_drawn ∈ GW := gw_t6 61 rfl rfl
theorem gw_498 : Cond.code yX12_drop cX12_drop 2 (some .int) ∈ GW := gw_t6 42 rfl rfl
theorem gw_499 : Cond.instanceMethod yX12_drop ∈ GW := gw_t6 40 rfl rfl
theorem gw_500 : Cond.selects RX12 yX12_drop yX12_drop ∈ GW := gw_t6 41 rfl rfl
theorem gw_501 : Cond.code yX12_end cX12_end 2 (some .boolean) ∈ GW := gw_t4 146 rfl rfl
theorem gw_502 : Cond.instanceMethod yX12_end ∈ GW := gw_t4 144 rfl rfl
theorem gw_503 : Cond.selects RX12 yX12_end yX12_end ∈ GW := gw_t4 145 rfl rfl
theorem gw_504 : Cond.code yX12_ends cX12_ends 5 (some .int) ∈ GW := gw_t5 65 rfl rfl
theorem gw_505 : Cond.static yX12_ends ∈ GW := gw_t5 64 rfl rfl
theorem gw_506 : Cond.code yX12_fault cX12_fault 1 (some .int) ∈ GW := gw_t5 85 rfl rfl
theorem gw_507 : Cond.instanceMethod yX12_fault ∈ GW := gw_t5 83 rfl rfl
theorem gw_508 : Cond.selects RX12 yX12_fault yX12_fault ∈ GW := gw_t5 84 rfl rfl
theorem gw_509 : Cond.code yX12_feed cX12_feed 6 (some .int) ∈ GW := gw_t4 137 rfl rfl
theorem gw_510 : Cond.instanceMethod yX12_feed ∈ GW := gw_t4 135 rfl rfl
theorem gw_511 : Cond.selects RX12 yX12_feed yX12_feed ∈ GW := gw_t4 136 rfl rfl
theorem gw_512 : Cond.code yX12_fewest cX12_fewest 2 (some .int) ∈ GW := gw_t5 147 rfl rfl
theorem gw_513 : Cond.instanceMethod yX12_fewest ∈ GW := gw_t5 145 rfl rfl
theorem gw_514 : Cond.selects RX12 yX12_fewest yX12_fewest ∈ GW := gw_t5 146 rfl rfl
theorem gw_515 : Cond.code yX12_first cX12_first 3 (some .int) ∈ GW := gw_t6 7 rfl rfl
theorem gw_516 : Cond.instanceMethod yX12_first ∈ GW := gw_t6 6 rfl rfl
theorem gw_517 : Cond.selects RX12 yX12_first yX12_first ∈ GW := gw_s 42 30 rfl rfl
theorem gw_518 : Cond.code yX12_goes cX12_goes 8 none ∈ GW := gw_t5 183 rfl rfl
theorem gw_519 : Cond.instanceMethod yX12_goes ∈ GW := gw_t5 182 rfl rfl
theorem gw_520 : Cond.selects RX12 yX12_goes yX12_goes ∈ GW := gw_s 33 30 rfl rfl
theorem gw_521 : Cond.code yX12_has cX12_has 2 (some .boolean) ∈ GW := gw_t5 62 rfl rfl
theorem gw_522 : Cond.static yX12_has ∈ GW := gw_t5 61 rfl rfl
theorem gw_523 : Cond.code yX12_image cX12_image 2 (some .boolean) ∈ GW := gw_t6 79 rfl rfl
theorem gw_524 : Cond.instanceMethod yX12_image ∈ GW := gw_t6 77 rfl rfl
theorem gw_525 : Cond.selects RX12 yX12_image yX12_image ∈ GW := gw_t6 78 rfl rfl
theorem gw_526 : Cond.code yX12_isCut cX12_isCut 3 (some .boolean) ∈ GW := gw_t5 136 rfl rfl
theorem gw_527 : Cond.instanceMethod yX12_isCut ∈ GW := gw_t5 135 rfl rfl
theorem gw_528 : Cond.selects RX12 yX12_isCut yX12_isCut ∈ GW := gw_s 28 30 rfl rfl
theorem gw_529 : Cond.code yX12_isDigit cX12_isDigit 1 (some .boolean) ∈ GW := gw_t5 16 rfl rfl
theorem gw_530 : Cond.static yX12_isDigit ∈ GW := gw_t5 15 rfl rfl
theorem gw_531 : Cond.code yX12_isIn cX12_isIn 3 (some .boolean) ∈ GW := gw_t5 52 rfl rfl
theorem gw_532 : Cond.static yX12_isIn ∈ GW := gw_t5 51 rfl rfl
theorem gw_533 : Cond.code yX12_isLetter cX12_isLetter 1 (some .boolean) ∈ GW := gw_t5 13 rfl rfl
theorem gw_534 : Cond.static yX12_isLetter ∈ GW := gw_t5 12 rfl rfl
theorem gw_535 : Cond.code yX12_isLineWord cX12_isLineWord 1 (some .boolean) ∈ GW := gw_t5 45 rfl rfl
theorem gw_536 : Cond.instanceMethod yX12_isLineWord ∈ GW := gw_t5 44 rfl rfl
theorem gw_537 : Cond.selects RX12 yX12_isLineWord yX12_isLineWord ∈ GW := gw_s 17 30 rfl rfl
theorem gw_538 : Cond.code yX12_isName cX12_isName 1 (some .boolean) ∈ GW := gw_t5 41 rfl rfl
theorem gw_539 : Cond.instanceMethod yX12_isName ∈ GW := gw_t5 40 rfl rfl
theorem gw_540 : Cond.selects RX12 yX12_isName yX12_isName ∈ GW := gw_s 16 30 rfl rfl
theorem gw_541 : Cond.code yX12_isOpen cX12_isOpen 2 (some .boolean) ∈ GW := gw_t5 140 rfl rfl
theorem gw_542 : Cond.instanceMethod yX12_isOpen ∈ GW := gw_t5 139 rfl rfl
theorem gw_543 : Cond.selects RX12 yX12_isOpen yX12_isOpen ∈ GW := gw_s 29 30 rfl rfl
theorem gw_544 : Cond.code yX12_isPointWord cX12_isPointWord 1 (some .boolean) ∈ GW := gw_t5 26 rfl rfl
theorem gw_545 : Cond.instanceMethod yX12_isPointWord ∈ GW := gw_t5 25 rfl rfl
theorem gw_546 : Cond.selects RX12 yX12_isPointWord yX12_isPointWord ∈ GW := gw_s 13 30 rfl rfl
theorem gw_547 : Cond.code yX12_isThere cX12_isThere 2 (some .boolean) ∈ GW := gw_t5 116 rfl rfl
theorem gw_548 : Cond.instanceMethod yX12_isThere ∈ GW := gw_t5 115 rfl rfl
theorem gw_549 : Cond.selects RX12 yX12_isThere yX12_isThere ∈ GW := gw_s 25 30 rfl rfl
theorem gw_550 : Cond.code yX12_join cX12_join 3 (some .int) ∈ GW := gw_t6 46 rfl rfl
theorem gw_551 : Cond.instanceMethod yX12_join ∈ GW := gw_t6 44 rfl rfl
theorem gw_552 : Cond.selects RX12 yX12_join yX12_join ∈ GW := gw_t6 45 rfl rfl
theorem gw_553 : Cond.code yX12_lay cX12_lay 3 none ∈ GW := gw_t4 142 rfl rfl
theorem gw_554 : Cond.instanceMethod yX12_lay ∈ GW := gw_t4 140 rfl rfl
theorem gw_555 : Cond.selects RX12 yX12_lay yX12_lay ∈ GW := gw_s 10 30 rfl rfl
theorem gw_556 : Cond.code yX12_laysApart cX12_laysApart 5 none ∈ GW := gw_t5 196 rfl rfl
theorem gw_557 : Cond.instanceMethod yX12_laysApart ∈ GW := gw_t5 195 rfl rfl
theorem gw_558 : Cond.selects RX12 yX12_laysApart yX12_laysApart ∈ GW := gw_s 34 30 rfl rfl
theorem gw_559 : Cond.code yX12_laysNear cX12_laysNear 4 (some .int) ∈ GW := gw_t5 208 rfl rfl
theorem gw_560 : Cond.instanceMethod yX12_laysNear ∈ GW := gw_t5 207 rfl rfl
theorem gw_561 : Cond.selects RX12 yX12_laysNear yX12_laysNear ∈ GW := gw_s 35 30 rfl rfl
theorem gw_562 : Cond.code yX12_laysRings cX12_laysRings 4 none ∈ GW := gw_t5 179 rfl rfl
theorem gw_563 : Cond.instanceMethod yX12_laysRings ∈ GW := gw_t5 178 rfl rfl
theorem gw_564 : Cond.selects RX12 yX12_laysRings yX12_laysRings ∈ GW := gw_s 32 30 rfl rfl
theorem gw_565 : Cond.code yX12_least cX12_least 2 (some .int) ∈ GW := gw_t5 100 rfl rfl
theorem gw_566 : Cond.static yX12_least ∈ GW := gw_t5 99 rfl rfl
theorem gw_567 : Cond.code yX12_leaves cX12_leaves 3 none ∈ GW := gw_t6 26 rfl rfl
theorem gw_568 : Cond.static yX12_leaves ∈ GW := gw_t6 25 rfl rfl
theorem gw_569 : Cond.code yX12_lightest cX12_lightest 2 (some .int) ∈ GW := gw_t5 159 rfl rfl
theorem gw_570 : Cond.instanceMethod yX12_lightest ∈ GW := gw_t5 157 rfl rfl
theorem gw_571 : Cond.selects RX12 yX12_lightest yX12_lightest ∈ GW := gw_t5 158 rfl rfl
theorem gw_572 : Cond.code yX12_lineMany cX12_lineMany 4 (some .int) ∈ GW := gw_t5 59 rfl rfl
theorem gw_573 : Cond.static yX12_lineMany ∈ GW := gw_t5 58 rfl rfl
theorem gw_574 : Cond.code yX12_lines cX12_lines 3 (some .int) ∈ GW := gw_t5 124 rfl rfl
theorem gw_575 : Cond.instanceMethod yX12_lines ∈ GW := gw_t5 122 rfl rfl
theorem gw_576 : Cond.selects RX12 yX12_lines yX12_lines ∈ GW := gw_t5 123 rfl rfl
theorem gw_577 : Cond.code yX12_mayJoin cX12_mayJoin 3 (some .boolean) ∈ GW := gw_t6 50 rfl rfl
theorem gw_578 : Cond.instanceMethod yX12_mayJoin ∈ GW := gw_t6 49 rfl rfl
theorem gw_579 : Cond.selects RX12 yX12_mayJoin yX12_mayJoin ∈ GW := gw_s 49 30 rfl rfl
theorem gw_580 : Cond.code yX12_mayStep cX12_mayStep 3 (some .boolean) ∈ GW := gw_t6 11 rfl rfl
theorem gw_581 : Cond.instanceMethod yX12_mayStep ∈ GW := gw_t6 10 rfl rfl
theorem gw_582 : Cond.selects RX12 yX12_mayStep yX12_mayStep ∈ GW := gw_s 43 30 rfl rfl
theorem gw_583 : Cond.code yX12_named cX12_named 2 (some .int) ∈ GW := gw_t5 49 rfl rfl
theorem gw_584 : Cond.instanceMethod yX12_named ∈ GW := gw_t5 48 rfl rfl
theorem gw_585 : Cond.selects RX12 yX12_named yX12_named ∈ GW := gw_s 18 30 rfl rfl
theorem gw_586 : Cond.code yX12_near cX12_near 1 (some .int) ∈ GW := gw_t5 204 rfl rfl
theorem gw_587 : Cond.instanceMethod yX12_near ∈ GW := gw_t5 202 rfl rfl
theorem gw_588 : Cond.selects RX12 yX12_near yX12_near ∈ GW := gw_t5 203 rfl rfl
theorem gw_589 : Cond.code yX12_net cX12_net 3 (some .int) ∈ GW := gw_t5 6 rfl rfl
theorem gw_590 : Cond.instanceMethod yX12_net ∈ GW := gw_t5 4 rfl rfl
theorem gw_591 : Cond.selects RX12 yX12_net yX12_net ∈ GW := gw_t5 5 rfl rfl
theorem gw_592 : Cond.code yX12_next cX12_next 5 none ∈ GW := gw_t5 10 rfl rfl
theorem gw_593 : Cond.instanceMethod yX12_next ∈ GW := gw_t5 9 rfl rfl
theorem gw_594 : Cond.selects RX12 yX12_next yX12_next ∈ GW := gw_s 11 30 rfl rfl
theorem gw_595 : Cond.code yX12_now cX12_now 2 (some .int) ∈ GW := gw_t5 89 rfl rfl
theorem gw_596 : Cond.instanceMethod yX12_now ∈ GW := gw_t5 87 rfl rfl
theorem gw_597 : Cond.selects RX12 yX12_now yX12_now ∈ GW := gw_t5 88 rfl rfl
theorem gw_598 : Cond.code yX12_one cX12_one 3 (some .int) ∈ GW := gw_t6 19 rfl rfl
theorem gw_599 : Cond.instanceMethod yX12_one ∈ GW := gw_t6 18 rfl rfl
theorem gw_600 : Cond.selects RX12 yX12_one yX12_one ∈ GW := gw_s 45 30 rfl rfl
theorem gw_601 : Cond.code yX12_other cX12_other 3 (some .int) ∈ GW := gw_t6 23 rfl rfl
theorem gw_602 : Cond.instanceMethod yX12_other ∈ GW := gw_t6 22 rfl rfl
theorem gw_603 : Cond.selects RX12 yX12_other yX12_other ∈ GW := gw_s 46 30 rfl rfl
theorem gw_604 : Cond.code yX12_pack cX12_pack 5 (some .int) ∈ GW := gw_t5 200 rfl rfl
theorem gw_605 : Cond.instanceMethod yX12_pack ∈ GW := gw_t5 198 rfl rfl
theorem gw_606 : Cond.selects RX12 yX12_pack yX12_pack ∈ GW := gw_t5 199 rfl rfl
theorem gw_607 : Cond.code yX12_packed cX12_packed 1 (some .int) ∈ GW := gw_t5 192 rfl rfl
theorem gw_608 : Cond.instanceMethod yX12_packed ∈ GW := gw_t5 190 rfl rfl
theorem gw_609 : Cond.selects RX12 yX12_packed yX12_packed ∈ GW := gw_t5 191 rfl rfl
theorem gw_610 : Cond.code yX12_part cX12_part 3 (some .int) ∈ GW := gw_t6 54 rfl rfl
theorem gw_611 : Cond.instanceMethod yX12_part ∈ GW := gw_t6 52 rfl rfl
theorem gw_612 : Cond.selects RX12 yX12_part yX12_part ∈ GW := gw_t6 53 rfl rfl
theorem gw_613 : Cond.code yX12_partOf cX12_partOf 7 (some .int) ∈ GW := gw_t5 104 rfl rfl
theorem gw_614 : Cond.instanceMethod yX12_partOf ∈ GW := gw_t5 103 rfl rfl
theorem gw_615 : Cond.selects RX12 yX12_partOf yX12_partOf ∈ GW := gw_s 23 30 rfl rfl
theorem gw_616 : Cond.code yX12_parts cX12_parts 4 (some .int) ∈ GW := gw_t5 97 rfl rfl
theorem gw_617 : Cond.instanceMethod yX12_parts ∈ GW := gw_t5 96 rfl rfl
theorem gw_618 : Cond.selects RX12 yX12_parts yX12_parts ∈ GW := gw_s 22 30 rfl rfl
theorem gw_619 : Cond.code yX12_point cX12_point 5 (some .int) ∈ GW := gw_t5 112 rfl rfl
theorem gw_620 : Cond.instanceMethod yX12_point ∈ GW := gw_t5 110 rfl rfl
theorem gw_621 : Cond.selects RX12 yX12_point yX12_point ∈ GW := gw_t5 111 rfl rfl
theorem gw_622 : Cond.code yX12_readEnd cX12_readEnd 1 (some .boolean) ∈ GW := gw_t5 78 rfl rfl
theorem gw_623 : Cond.instanceMethod yX12_readEnd ∈ GW := gw_t5 77 rfl rfl
theorem gw_624 : Cond.selects RX12 yX12_readEnd yX12_readEnd ∈ GW := gw_s 20 30 rfl rfl
theorem gw_625 : Cond.code yX12_readLine cX12_readLine 3 (some .boolean) ∈ GW := gw_t5 56 rfl rfl
theorem gw_626 : Cond.instanceMethod yX12_readLine ∈ GW := gw_t5 55 rfl rfl
theorem gw_627 : Cond.selects RX12 yX12_readLine yX12_readLine ∈ GW := gw_s 19 30 rfl rfl
theorem gw_628 : Cond.code yX12_readPoint cX12_readPoint 2 (some .boolean) ∈ GW := gw_t5 33 rfl rfl
theorem gw_629 : Cond.instanceMethod yX12_readPoint ∈ GW := gw_t5 32 rfl rfl
theorem gw_630 : Cond.selects RX12 yX12_readPoint yX12_readPoint ∈ GW := gw_s 14 30 rfl rfl
theorem gw_631 : Cond.code yX12_refuse cX12_refuse 1 (some .int) ∈ GW := gw_t5 120 rfl rfl
theorem gw_632 : Cond.instanceMethod yX12_refuse ∈ GW := gw_t5 119 rfl rfl
theorem gw_633 : Cond.selects RX12 yX12_refuse yX12_refuse ∈ GW := gw_s 26 30 rfl rfl
theorem gw_634 : Cond.code yX12_restore cX12_restore 2 (some .boolean) ∈ GW := gw_t6 83 rfl rfl
theorem gw_635 : Cond.instanceMethod yX12_restore ∈ GW := gw_t6 81 rfl rfl
theorem gw_636 : Cond.selects RX12 yX12_restore yX12_restore ∈ GW := gw_t6 82 rfl rfl
theorem gw_637 : Cond.code yX12_rings cX12_rings 1 (some .long) ∈ GW := gw_t5 175 rfl rfl
theorem gw_638 : Cond.instanceMethod yX12_rings ∈ GW := gw_t5 173 rfl rfl
theorem gw_639 : Cond.selects RX12 yX12_rings yX12_rings ∈ GW := gw_t5 174 rfl rfl
theorem gw_640 : Cond.code yX12_shortest cX12_shortest 3 (some .int) ∈ GW := gw_t5 188 rfl rfl
theorem gw_641 : Cond.instanceMethod yX12_shortest ∈ GW := gw_t5 186 rfl rfl
theorem gw_642 : Cond.selects RX12 yX12_shortest yX12_shortest ∈ GW := gw_t5 187 rfl rfl
theorem gw_643 : Cond.code yX12_shrink cX12_shrink 2 (some .int) ∈ GW := gw_t5 239 rfl rfl
theorem gw_644 : Cond.instanceMethod yX12_shrink ∈ GW := gw_t5 237 rfl rfl
theorem gw_645 : Cond.selects RX12 yX12_shrink yX12_shrink ∈ GW := gw_t5 238 rfl rfl
theorem gw_646 : Cond.code yX12_shrinkAll cX12_shrinkAll 2 (some .int) ∈ GW := gw_t6 38 rfl rfl
theorem gw_647 : Cond.instanceMethod yX12_shrinkAll ∈ GW := gw_t6 36 rfl rfl
theorem gw_648 : Cond.selects RX12 yX12_shrinkAll yX12_shrinkAll ∈ GW := gw_t6 37 rfl rfl
theorem gw_649 : Cond.code yX12_sinks cX12_sinks 11 none ∈ GW := gw_t5 216 rfl rfl
theorem gw_650 : Cond.instanceMethod yX12_sinks ∈ GW := gw_t5 215 rfl rfl
theorem gw_651 : Cond.selects RX12 yX12_sinks yX12_sinks ∈ GW := gw_s 37 30 rfl rfl
theorem gw_652 : Cond.code yX12_snap cX12_snap 2 none ∈ GW := gw_t6 34 rfl rfl
theorem gw_653 : Cond.instanceMethod yX12_snap ∈ GW := gw_t6 33 rfl rfl
theorem gw_654 : Cond.selects RX12 yX12_snap yX12_snap ∈ GW := gw_s 48 30 rfl rfl
theorem gw_655 : Cond.code yX12_sparing cX12_sparing 2 (some .int) ∈ GW := gw_t5 167 rfl rfl
theorem gw_656 : Cond.instanceMethod yX12_sparing ∈ GW := gw_t5 165 rfl rfl
theorem gw_657 : Cond.selects RX12 yX12_sparing yX12_sparing ∈ GW := gw_t5 166 rfl rfl
theorem gw_658 : Cond.code yX12_spelt cX12_spelt 7 (some .long) ∈ GW := gw_t5 29 rfl rfl
theorem gw_659 : Cond.static yX12_spelt ∈ GW := gw_t5 28 rfl rfl
theorem gw_660 : Cond.code yX12_stay cX12_stay 1 none ∈ GW := gw_t6 30 rfl rfl
theorem gw_661 : Cond.instanceMethod yX12_stay ∈ GW := gw_t6 29 rfl rfl
theorem gw_662 : Cond.selects RX12 yX12_stay yX12_stay ∈ GW := gw_s 47 30 rfl rfl
theorem gw_663 : Cond.code yX12_steps cX12_steps 5 (some .int) ∈ GW := gw_t6 3 rfl rfl
theorem gw_664 : Cond.instanceMethod yX12_steps ∈ GW := gw_t6 2 rfl rfl
theorem gw_665 : Cond.selects RX12 yX12_steps yX12_steps ∈ GW := gw_s 41 30 rfl rfl
theorem gw_666 : Cond.code yX12_takes cX12_takes 13 none ∈ GW := gw_t5 227 rfl rfl
theorem gw_667 : Cond.instanceMethod yX12_takes ∈ GW := gw_t5 226 rfl rfl
theorem gw_668 : Cond.selects RX12 yX12_takes yX12_takes ∈ GW := gw_s 39 30 rfl rfl
theorem gw_669 : Cond.code yX12_tapeAt cX12_tapeAt 2 (some .int) ∈ GW := gw_t5 20 rfl rfl
theorem gw_670 : Cond.instanceMethod yX12_tapeAt ∈ GW := gw_t5 19 rfl rfl
theorem gw_671 : Cond.selects RX12 yX12_tapeAt yX12_tapeAt ∈ GW := gw_s 12 30 rfl rfl
theorem gw_672 : Cond.code yX12_tellsCut cX12_tellsCut 3 (some .int) ∈ GW := gw_t5 155 rfl rfl
theorem gw_673 : Cond.instanceMethod yX12_tellsCut ∈ GW := gw_t5 154 rfl rfl
theorem gw_674 : Cond.selects RX12 yX12_tellsCut yX12_tellsCut ∈ GW := gw_s 31 30 rfl rfl
theorem gw_675 : Cond.code yX12_there cX12_there 1 (some .int) ∈ GW := gw_t5 93 rfl rfl
theorem gw_676 : Cond.instanceMethod yX12_there ∈ GW := gw_t5 92 rfl rfl
theorem gw_677 : Cond.selects RX12 yX12_there yX12_there ∈ GW := gw_s 21 30 rfl rfl
theorem gw_678 : Cond.code yX12_thick cX12_thick 3 (some .int) ∈ GW := gw_t6 15 rfl rfl
theorem gw_679 : Cond.instanceMethod yX12_thick ∈ GW := gw_t6 14 rfl rfl
theorem gw_680 : Cond.selects RX12 yX12_thick yX12_thick ∈ GW := gw_s 44 30 rfl rfl
theorem gw_681 : Cond.code yX12_thinRing cX12_thinRing 5 (some .int) ∈ GW := gw_t5 220 rfl rfl
theorem gw_682 : Cond.instanceMethod yX12_thinRing ∈ GW := gw_t5 219 rfl rfl
theorem gw_683 : Cond.selects RX12 yX12_thinRing yX12_thinRing ∈ GW := gw_s 38 30 rfl rfl
theorem gw_684 : Cond.code yX12_those cX12_those 7 (some .int) ∈ GW := gw_t5 163 rfl rfl
theorem gw_685 : Cond.instanceMethod yX12_those ∈ GW := gw_t5 161 rfl rfl
theorem gw_686 : Cond.selects RX12 yX12_those yX12_those ∈ GW := gw_t5 162 rfl rfl
theorem gw_687 : Cond.code yX12_thrown cX12_thrown 1 (some .int) ∈ GW := gw_t4 133 rfl rfl
theorem gw_688 : Cond.instanceMethod yX12_thrown ∈ GW := gw_t4 131 rfl rfl
theorem gw_689 : Cond.selects RX12 yX12_thrown yX12_thrown ∈ GW := gw_t4 132 rfl rfl
theorem gw_690 : Cond.code yX12_trimmed cX12_trimmed 5 (some .int) ∈ GW := gw_t5 212 rfl rfl
theorem gw_691 : Cond.instanceMethod yX12_trimmed ∈ GW := gw_t5 211 rfl rfl
theorem gw_692 : Cond.selects RX12 yX12_trimmed yX12_trimmed ∈ GW := gw_s 36 30 rfl rfl
theorem gw_693 : Cond.code yX12_undo cX12_undo 1 (some .int) ∈ GW := gw_t6 75 rfl rfl
theorem gw_694 : Cond.instanceMethod yX12_undo ∈ GW := gw_t6 73 rfl rfl
theorem gw_695 : Cond.selects RX12 yX12_undo yX12_undo ∈ GW := gw_t6 74 rfl rfl
theorem gw_696 : Cond.code yX12_upTo cX12_upTo 2 (some .int) ∈ GW := gw_t5 171 rfl rfl
theorem gw_697 : Cond.instanceMethod yX12_upTo ∈ GW := gw_t5 169 rfl rfl
theorem gw_698 : Cond.selects RX12 yX12_upTo yX12_upTo ∈ GW := gw_t5 170 rfl rfl
theorem gw_699 : Cond.code yX12_weigh cX12_weigh 3 (some .int) ∈ GW := gw_t6 58 rfl rfl
theorem gw_700 : Cond.instanceMethod yX12_weigh ∈ GW := gw_t6 56 rfl rfl
theorem gw_701 : Cond.selects RX12 yX12_weigh yX12_weigh ∈ GW := gw_t6 57 rfl rfl
theorem gw_702 : Cond.code yX12_weightOf cX12_weightOf 4 (some .int) ∈ GW := gw_t5 108 rfl rfl
theorem gw_703 : Cond.instanceMethod yX12_weightOf ∈ GW := gw_t5 107 rfl rfl
theorem gw_704 : Cond.selects RX12 yX12_weightOf yX12_weightOf ∈ GW := gw_s 24 30 rfl rfl
theorem gw_705 : Cond.code yX1_below cX1_below 2 (some .int) ∈ GW := gw_t4 11 rfl rfl
theorem gw_706 : Cond.instanceMethod yX1_below ∈ GW := gw_t4 9 rfl rfl
theorem gw_707 : Cond.selects RX1 yX1_below yX1_below ∈ GW := gw_t4 10 rfl rfl
theorem gw_708 : Cond.initialized RX1 ∈ GW := gw_t1 7 rfl rfl
theorem gw_709 : Cond.code yX3_addLine cX3_addLine 4 (some .boolean) ∈ GW := gw_t2 149 rfl rfl
theorem gw_710 : Cond.instanceMethod yX3_addLine ∈ GW := gw_t2 147 rfl rfl
theorem gw_711 : Cond.selects RX3 yX3_addLine yX3_addLine ∈ GW := gw_t2 148 rfl rfl
theorem gw_712 : Cond.initialized RX3 ∈ GW := gw_t1 4 rfl rfl
theorem gw_713 : Cond.code yX3_addPoint cX3_addPoint 1 none ∈ GW := gw_t2 109 rfl rfl
theorem gw_714 : Cond.instanceMethod yX3_addPoint ∈ GW := gw_t2 107 rfl rfl
theorem gw_715 : Cond.selects RX3 yX3_addPoint yX3_addPoint ∈ GW := gw_t2 108 rfl rfl
theorem gw_716 : Cond.code yX3_areThere cX3_areThere 2 (some .boolean) ∈ GW := gw_t2 213 rfl rfl
theorem gw_717 : Cond.instanceMethod yX3_areThere ∈ GW := gw_t2 211 rfl rfl
theorem gw_718 : Cond.selects RX3 yX3_areThere yX3_areThere ∈ GW := gw_t2 212 rfl rfl
theorem gw_719 : Cond.code yX3_besides cX3_besides 5 (some .int) ∈ GW := gw_t2 226 rfl rfl
theorem gw_720 : Cond.instanceMethod yX3_besides ∈ GW := gw_t2 224 rfl rfl
theorem gw_721 : Cond.selects RX3 yX3_besides yX3_besides ∈ GW := gw_t2 225 rfl rfl
theorem gw_722 : Cond.code yX3_changeWeight cX3_changeWeight 3 (some .boolean) ∈ GW := gw_t2 118 rfl rfl
theorem gw_723 : Cond.instanceMethod yX3_changeWeight ∈ GW := gw_t2 116 rfl rfl
theorem gw_724 : Cond.selects RX3 yX3_changeWeight yX3_changeWeight ∈ GW := gw_t2 117 rfl rfl
theorem gw_725 : Cond.code yX3_copyFrom cX3_copyFrom 3 none ∈ GW := gw_t2 158 rfl rfl
theorem gw_726 : Cond.instanceMethod yX3_copyFrom ∈ GW := gw_t2 156 rfl rfl
theorem gw_727 : Cond.selects RX3 yX3_copyFrom yX3_copyFrom ∈ GW := gw_t2 157 rfl rfl
theorem gw_728 : Cond.code yX3_empty cX3_empty 2 none ∈ GW := gw_t2 64 rfl rfl
theorem gw_729 : Cond.instanceMethod yX3_empty ∈ GW := gw_t2 62 rfl rfl
theorem gw_730 : Cond.selects RX3 yX3_empty yX3_empty ∈ GW := gw_t2 63 rfl rfl
theorem gw_731 : Cond.code yX3_endsIn cX3_endsIn 5 (some .int) ∈ GW := gw_t2 137 rfl rfl
theorem gw_732 : Cond.instanceMethod yX3_endsIn ∈ GW := gw_t2 135 rfl rfl
theorem gw_733 : Cond.selects RX3 yX3_endsIn yX3_endsIn ∈ GW := gw_t2 136 rfl rfl
theorem gw_734 : Cond.code yX3_holds cX3_holds 2 (some .boolean) ∈ GW := gw_t2 125 rfl rfl
theorem gw_735 : Cond.static yX3_holds ∈ GW := gw_t2 124 rfl rfl
theorem gw_736 : Cond.code yX3_isThere cX3_isThere 2 (some .boolean) ∈ GW := gw_t2 122 rfl rfl
theorem gw_737 : Cond.instanceMethod yX3_isThere ∈ GW := gw_t2 120 rfl rfl
theorem gw_738 : Cond.selects RX3 yX3_isThere yX3_isThere ∈ GW := gw_t2 121 rfl rfl
theorem gw_739 : Cond.code yX3_linesIn cX3_linesIn 4 (some .int) ∈ GW := gw_t3 151 rfl rfl
theorem gw_740 : Cond.instanceMethod yX3_linesIn ∈ GW := gw_t3 149 rfl rfl
theorem gw_741 : Cond.selects RX3 yX3_linesIn yX3_linesIn ∈ GW := gw_t3 150 rfl rfl
theorem gw_742 : Cond.code yX3_linesOf cX3_linesOf 4 (some .int) ∈ GW := gw_t2 141 rfl rfl
theorem gw_743 : Cond.instanceMethod yX3_linesOf ∈ GW := gw_t2 139 rfl rfl
theorem gw_744 : Cond.selects RX3 yX3_linesOf yX3_linesOf ∈ GW := gw_t2 140 rfl rfl
theorem gw_745 : Cond.code yX3_partsIn cX3_partsIn 5 (some .int) ∈ GW := gw_t2 178 rfl rfl
theorem gw_746 : Cond.instanceMethod yX3_partsIn ∈ GW := gw_t2 176 rfl rfl
theorem gw_747 : Cond.selects RX3 yX3_partsIn yX3_partsIn ∈ GW := gw_t2 177 rfl rfl
theorem gw_748 : Cond.code yX3_reachedFrom cX3_reachedFrom 8 (some .int) ∈ GW := gw_t2 182 rfl rfl
theorem gw_749 : Cond.instanceMethod yX3_reachedFrom ∈ GW := gw_t2 180 rfl rfl
theorem gw_750 : Cond.selects RX3 yX3_reachedFrom yX3_reachedFrom ∈ GW := gw_t2 181 rfl rfl
theorem gw_751 : Cond.code yX3_remove cX3_remove 3 (some .boolean) ∈ GW := gw_t3 187 rfl rfl
theorem gw_752 : Cond.instanceMethod yX3_remove ∈ GW := gw_t3 185 rfl rfl
theorem gw_753 : Cond.selects RX3 yX3_remove yX3_remove ∈ GW := gw_t3 186 rfl rfl
theorem gw_754 : Cond.code yX3_setLines cX3_setLines 6 none ∈ GW := gw_t2 154 rfl rfl
theorem gw_755 : Cond.instanceMethod yX3_setLines ∈ GW := gw_t2 152 rfl rfl
theorem gw_756 : Cond.selects RX3 yX3_setLines yX3_setLines ∈ GW := gw_t2 153 rfl rfl
theorem gw_757 : Cond.code yX3_takeLine cX3_takeLine 3 (some .boolean) ∈ GW := gw_t3 234 rfl rfl
theorem gw_758 : Cond.instanceMethod yX3_takeLine ∈ GW := gw_t3 232 rfl rfl
theorem gw_759 : Cond.selects RX3 yX3_takeLine yX3_takeLine ∈ GW := gw_t3 233 rfl rfl
theorem gw_760 : Cond.code yX3_weightOf cX3_weightOf 2 (some .int) ∈ GW := gw_t2 199 rfl rfl
theorem gw_761 : Cond.instanceMethod yX3_weightOf ∈ GW := gw_t2 197 rfl rfl
theorem gw_762 : Cond.selects RX3 yX3_weightOf yX3_weightOf ∈ GW := gw_t2 198 rfl rfl
theorem gw_763 : Cond.code yX3_weightOfSet cX3_weightOfSet 4 (some .int) ∈ GW := gw_t2 195 rfl rfl
theorem gw_764 : Cond.instanceMethod yX3_weightOfSet ∈ GW := gw_t2 193 rfl rfl
theorem gw_765 : Cond.selects RX3 yX3_weightOfSet yX3_weightOfSet ∈ GW := gw_t2 194 rfl rfl
theorem gw_766 : Cond.code yX4_learn cX4_learn 4 none ∈ GW := gw_t3 76 rfl rfl
theorem gw_767 : Cond.instanceMethod yX4_learn ∈ GW := gw_t3 74 rfl rfl
theorem gw_768 : Cond.selects RX4 yX4_learn yX4_learn ∈ GW := gw_t3 75 rfl rfl
theorem gw_769 : Cond.initialized RX4 ∈ GW := gw_t1 9 rfl rfl
theorem gw_770 : Cond.code yX4_leastOfMost cX4_leastOfMost 7 (some .int) ∈ GW := gw_t3 106 rfl rfl
theorem gw_771 : Cond.instanceMethod yX4_leastOfMost ∈ GW := gw_t3 104 rfl rfl
theorem gw_772 : Cond.selects RX4 yX4_leastOfMost yX4_leastOfMost ∈ GW := gw_t3 105 rfl rfl
theorem gw_773 : Cond.code yX4_mostIn cX4_mostIn 2 (some .int) ∈ GW := gw_t3 85 rfl rfl
theorem gw_774 : Cond.instanceMethod yX4_mostIn ∈ GW := gw_t3 83 rfl rfl
theorem gw_775 : Cond.selects RX4 yX4_mostIn yX4_mostIn ∈ GW := gw_t3 84 rfl rfl
theorem gw_776 : Cond.code yX4_mostWithLowest cX4_mostWithLowest 8 (some .int) ∈ GW := gw_t3 80 rfl rfl
theorem gw_777 : Cond.instanceMethod yX4_mostWithLowest ∈ GW := gw_t3 78 rfl rfl
theorem gw_778 : Cond.selects RX4 yX4_mostWithLowest yX4_mostWithLowest ∈ GW := gw_t3 79 rfl rfl
theorem gw_779 : Cond.code yX4_ringAt cX4_ringAt 8 (some .int) ∈ GW := gw_t3 102 rfl rfl
theorem gw_780 : Cond.instanceMethod yX4_ringAt ∈ GW := gw_t3 100 rfl rfl
theorem gw_781 : Cond.selects RX4 yX4_ringAt yX4_ringAt ∈ GW := gw_t3 101 rfl rfl
theorem gw_782 : Cond.code yX5_forget cX5_forget 1 none ∈ GW := gw_t2 162 rfl rfl
theorem gw_783 : Cond.instanceMethod yX5_forget ∈ GW := gw_t2 160 rfl rfl
theorem gw_784 : Cond.selects RX5 yX5_forget yX5_forget ∈ GW := gw_t2 161 rfl rfl
theorem gw_785 : Cond.initialized RX5 ∈ GW := gw_t1 5 rfl rfl
theorem gw_786 : Cond.code yX5_giveLatest cX5_giveLatest 3 (some .boolean) ∈ GW := gw_t4 20 rfl rfl
theorem gw_787 : Cond.instanceMethod yX5_giveLatest ∈ GW := gw_t4 18 rfl rfl
theorem gw_788 : Cond.selects RX5 yX5_giveLatest yX5_giveLatest ∈ GW := gw_t4 19 rfl rfl
theorem gw_789 : Cond.code yX5_keepNoted cX5_keepNoted 1 none ∈ GW := gw_t3 211 rfl rfl
theorem gw_790 : Cond.instanceMethod yX5_keepNoted ∈ GW := gw_t3 209 rfl rfl
theorem gw_791 : Cond.selects RX5 yX5_keepNoted yX5_keepNoted ∈ GW := gw_t3 210 rfl rfl
theorem gw_792 : Cond.code yX5_note cX5_note 3 none ∈ GW := gw_t3 170 rfl rfl
theorem gw_793 : Cond.instanceMethod yX5_note ∈ GW := gw_t3 168 rfl rfl
theorem gw_794 : Cond.selects RX5 yX5_note yX5_note ∈ GW := gw_t3 169 rfl rfl
theorem gw_795 : Cond.code yX5_placeAt cX5_placeAt 2 (some (.object "RingCutters$Net")) ∈ GW := gw_t3 174 rfl rfl
theorem gw_796 : Cond.instanceMethod yX5_placeAt ∈ GW := gw_t3 172 rfl rfl
theorem gw_797 : Cond.selects RX5 yX5_placeAt yX5_placeAt ∈ GW := gw_t3 173 rfl rfl
theorem gw_798 : Cond.code yX6_beginRow cX6_beginRow 2 (some .int) ∈ GW := gw_t2 91 rfl rfl
theorem gw_799 : Cond.instanceMethod yX6_beginRow ∈ GW := gw_t2 89 rfl rfl
theorem gw_800 : Cond.selects RX6 yX6_beginRow yX6_beginRow ∈ GW := gw_t2 90 rfl rfl
theorem gw_801 : Cond.initialized RX6 ∈ GW := gw_t1 3 rfl rfl
theorem gw_802 : Cond.code yX6_isDigit cX6_isDigit 1 (some .boolean) ∈ GW := gw_t2 81 rfl rfl
theorem gw_803 : Cond.static yX6_isDigit ∈ GW := gw_t2 80 rfl rfl
theorem gw_804 : Cond.code yX6_isLetter cX6_isLetter 1 (some .boolean) ∈ GW := gw_t2 78 rfl rfl
theorem gw_805 : Cond.static yX6_isLetter ∈ GW := gw_t2 77 rfl rfl
theorem gw_806 : Cond.code yX6_isName cX6_isName 1 (some .boolean) ∈ GW := gw_t2 101 rfl rfl
theorem gw_807 : Cond.instanceMethod yX6_isName ∈ GW := gw_t2 99 rfl rfl
theorem gw_808 : Cond.selects RX6 yX6_isName yX6_isName ∈ GW := gw_t2 100 rfl rfl
theorem gw_809 : Cond.code yX6_pointNamed cX6_pointNamed 4 (some .int) ∈ GW := gw_t2 105 rfl rfl
theorem gw_810 : Cond.instanceMethod yX6_pointNamed ∈ GW := gw_t2 103 rfl rfl
theorem gw_811 : Cond.selects RX6 yX6_pointNamed yX6_pointNamed ∈ GW := gw_t2 104 rfl rfl
theorem gw_812 : Cond.code yX6_readAll cX6_readAll 6 (some .int) ∈ GW := gw_t2 60 rfl rfl
theorem gw_813 : Cond.instanceMethod yX6_readAll ∈ GW := gw_t2 58 rfl rfl
theorem gw_814 : Cond.selects RX6 yX6_readAll yX6_readAll ∈ GW := gw_t2 59 rfl rfl
theorem gw_815 : Cond.code yX6_readToken cX6_readToken 7 none ∈ GW := gw_t2 75 rfl rfl
theorem gw_816 : Cond.instanceMethod yX6_readToken ∈ GW := gw_t2 73 rfl rfl
theorem gw_817 : Cond.selects RX6 yX6_readToken yX6_readToken ∈ GW := gw_t2 74 rfl rfl
theorem gw_818 : Cond.code yX6_takeFirst cX6_takeFirst 1 (some .int) ∈ GW := gw_t2 133 rfl rfl
theorem gw_819 : Cond.instanceMethod yX6_takeFirst ∈ GW := gw_t2 131 rfl rfl
theorem gw_820 : Cond.selects RX6 yX6_takeFirst yX6_takeFirst ∈ GW := gw_t2 132 rfl rfl
theorem gw_821 : Cond.code yX6_takeName cX6_takeName 2 (some .int) ∈ GW := gw_t2 97 rfl rfl
theorem gw_822 : Cond.instanceMethod yX6_takeName ∈ GW := gw_t2 95 rfl rfl
theorem gw_823 : Cond.selects RX6 yX6_takeName yX6_takeName ∈ GW := gw_t2 96 rfl rfl
theorem gw_824 : Cond.code yX6_takeSecond cX6_takeSecond 2 (some .int) ∈ GW := gw_t2 145 rfl rfl
theorem gw_825 : Cond.instanceMethod yX6_takeSecond ∈ GW := gw_t2 143 rfl rfl
theorem gw_826 : Cond.selects RX6 yX6_takeSecond yX6_takeSecond ∈ GW := gw_t2 144 rfl rfl
theorem gw_827 : Cond.code yX6_takeSign cX6_takeSign 1 (some .int) ∈ GW := gw_t2 129 rfl rfl
theorem gw_828 : Cond.instanceMethod yX6_takeSign ∈ GW := gw_t2 127 rfl rfl
theorem gw_829 : Cond.selects RX6 yX6_takeSign yX6_takeSign ∈ GW := gw_t2 128 rfl rfl
theorem gw_830 : Cond.code yX6_takeToken cX6_takeToken 1 (some .int) ∈ GW := gw_t2 87 rfl rfl
theorem gw_831 : Cond.instanceMethod yX6_takeToken ∈ GW := gw_t2 85 rfl rfl
theorem gw_832 : Cond.selects RX6 yX6_takeToken yX6_takeToken ∈ GW := gw_t2 86 rfl rfl
theorem gw_833 : Cond.code yX6_takeWeight cX6_takeWeight 1 (some .int) ∈ GW := gw_t2 113 rfl rfl
theorem gw_834 : Cond.instanceMethod yX6_takeWeight ∈ GW := gw_t2 111 rfl rfl
theorem gw_835 : Cond.selects RX6 yX6_takeWeight yX6_takeWeight ∈ GW := gw_t2 112 rfl rfl
theorem gw_836 : Cond.code yX7_of cX7_of 8 (some .long) ∈ GW := gw_t3 45 rfl rfl
theorem gw_837 : Cond.static yX7_of ∈ GW := gw_t3 44 rfl rfl
theorem gw_838 : Cond.initialized RX7 ∈ GW := gw_t1 18 rfl rfl
theorem gw_839 : Cond.code yX7_waysBack cX7_waysBack 9 (some .long) ∈ GW := gw_t3 50 rfl rfl
theorem gw_840 : Cond.static yX7_waysBack ∈ GW := gw_t3 49 rfl rfl
theorem gw_841 : Cond.code yX8_fewestOf cX8_fewestOf 6 (some .int) ∈ GW := gw_t3 13 rfl rfl
theorem gw_842 : Cond.instanceMethod yX8_fewestOf ∈ GW := gw_t3 11 rfl rfl
theorem gw_843 : Cond.selects RX8 yX8_fewestOf yX8_fewestOf ∈ GW := gw_t3 12 rfl rfl
theorem gw_844 : Cond.initialized RX8 ∈ GW := gw_t1 8 rfl rfl
theorem gw_845 : Cond.code yX8_isFree cX8_isFree 2 (some .boolean) ∈ GW := gw_t2 231 rfl rfl
theorem gw_846 : Cond.instanceMethod yX8_isFree ∈ GW := gw_t2 229 rfl rfl
theorem gw_847 : Cond.selects RX8 yX8_isFree yX8_isFree ∈ GW := gw_t2 230 rfl rfl
theorem gw_848 : Cond.code yX8_isFreeByTip cX8_isFreeByTip 4 (some .boolean) ∈ GW := gw_t2 235 rfl rfl
theorem gw_849 : Cond.instanceMethod yX8_isFreeByTip ∈ GW := gw_t2 233 rfl rfl
theorem gw_850 : Cond.selects RX8 yX8_isFreeByTip yX8_isFreeByTip ∈ GW := gw_t2 234 rfl rfl
theorem gw_851 : Cond.code yX8_isLeastRing cX8_isLeastRing 3 (some .boolean) ∈ GW := gw_t3 4 rfl rfl
theorem gw_852 : Cond.instanceMethod yX8_isLeastRing ∈ GW := gw_t3 2 rfl rfl
theorem gw_853 : Cond.selects RX8 yX8_isLeastRing yX8_isLeastRing ∈ GW := gw_t3 3 rfl rfl
theorem gw_854 : Cond.code yX8_learn cX8_learn 4 none ∈ GW := gw_t2 221 rfl rfl
theorem gw_855 : Cond.instanceMethod yX8_learn ∈ GW := gw_t2 219 rfl rfl
theorem gw_856 : Cond.selects RX8 yX8_learn yX8_learn ∈ GW := gw_t2 220 rfl rfl
theorem gw_857 : Cond.code yX8_learnRings cX8_learnRings 5 none ∈ GW := gw_t3 0 rfl rfl
theorem gw_858 : Cond.instanceMethod yX8_learnRings ∈ GW := gw_t2 238 rfl rfl
theorem gw_859 : Cond.selects RX8 yX8_learnRings yX8_learnRings ∈ GW := gw_t2 239 rfl rfl
theorem gw_860 : Cond.code yX8_lowest cX8_lowest 1 (some .int) ∈ GW := gw_t2 185 rfl rfl
theorem gw_861 : Cond.static yX8_lowest ∈ GW := gw_t2 184 rfl rfl
theorem gw_862 : Cond.code yX8_ringAt cX8_ringAt 2 (some .int) ∈ GW := gw_t3 64 rfl rfl
theorem gw_863 : Cond.instanceMethod yX8_ringAt ∈ GW := gw_t3 62 rfl rfl
theorem gw_864 : Cond.selects RX8 yX8_ringAt yX8_ringAt ∈ GW := gw_t3 63 rfl rfl
theorem gw_865 : Cond.code yX8_shortestRing cX8_shortestRing 5 (some .int) ∈ GW := gw_t3 60 rfl rfl
theorem gw_866 : Cond.instanceMethod yX8_shortestRing ∈ GW := gw_t3 58 rfl rfl
theorem gw_867 : Cond.selects RX8 yX8_shortestRing yX8_shortestRing ∈ GW := gw_t3 59 rfl rfl
theorem gw_868 : Cond.code yX8_startOf cX8_startOf 2 (some .int) ∈ GW := gw_t3 89 rfl rfl
theorem gw_869 : Cond.instanceMethod yX8_startOf ∈ GW := gw_t3 87 rfl rfl
theorem gw_870 : Cond.selects RX8 yX8_startOf yX8_startOf ∈ GW := gw_t3 88 rfl rfl
theorem gw_871 : Cond.code yX9_passBy cX9_passBy 5 (some .int) ∈ GW := gw_t3 198 rfl rfl
theorem gw_872 : Cond.static yX9_passBy ∈ GW := gw_t3 197 rfl rfl
theorem gw_873 : Cond.initialized RX9 ∈ GW := gw_t1 19 rfl rfl
theorem gw_874 : Cond.code yX9_removeTip cX9_removeTip 2 (some .int) ∈ GW := gw_t3 190 rfl rfl
theorem gw_875 : Cond.static yX9_removeTip ∈ GW := gw_t3 189 rfl rfl
theorem gw_876 : Cond.code yX9_step cX9_step 2 (some .int) ∈ GW := gw_t3 178 rfl rfl
theorem gw_877 : Cond.static yX9_step ∈ GW := gw_t3 177 rfl rfl
theorem gw_878 : Cond.code yX9_takeLooped cX9_takeLooped 2 (some .int) ∈ GW := gw_t3 181 rfl rfl
theorem gw_879 : Cond.static yX9_takeLooped ∈ GW := gw_t3 180 rfl rfl
theorem gw_880 : Cond.code yX9_thinLines cX9_thinLines 3 (some .int) ∈ GW := gw_t3 194 rfl rfl
theorem gw_881 : Cond.static yX9_thinLines ∈ GW := gw_t3 193 rfl rfl
theorem in_ws {C : String} {T : u_T} {N : Nat} (h : ∀ k, k < N → u_lay C T k ∈ GW) : ∀ w ∈ u_ws C T N, w ∈ GW := by
  intro w hw
  obtain ⟨k, hk, rfl⟩ := List.mem_map.mp hw
  exact h k (List.mem_range.mp hk)
theorem ly_X0_0 : u_lay RX0 TX0 0 ∈ GW := gw_t1 219 rfl rfl
theorem ly_X0_1 : u_lay RX0 TX0 1 ∈ GW := gw_t1 221 rfl rfl
theorem ly_X0_2 : u_lay RX0 TX0 2 ∈ GW := gw_t1 223 rfl rfl
theorem ly_X0_3 : u_lay RX0 TX0 3 ∈ GW := gw_t1 225 rfl rfl
theorem ly_X0_4 : u_lay RX0 TX0 4 ∈ GW := gw_t1 227 rfl rfl
theorem ly_X0_5 : u_lay RX0 TX0 5 ∈ GW := gw_t1 229 rfl rfl
theorem ly_X0_6 : u_lay RX0 TX0 6 ∈ GW := gw_t1 231 rfl rfl
theorem inlX0 : ∀ w ∈ u_ws RX0 TX0 7, w ∈ GW := in_ws (lt_s (lt_s (lt_s (lt_s (lt_s (lt_s (lt_s (lt_0) ly_X0_0) ly_X0_1) ly_X0_2) ly_X0_3) ly_X0_4) ly_X0_5) ly_X0_6)
theorem ly_X1_0 : u_lay RX1 TX1 0 ∈ GW := gw_t1 164 rfl rfl
theorem inlX1 : ∀ w ∈ u_ws RX1 TX1 1, w ∈ GW := in_ws (lt_s (lt_0) ly_X1_0)
theorem ly_X2_0 : u_lay RX2 TX2 0 ∈ GW := gw_t1 151 rfl rfl
theorem ly_X2_1 : u_lay RX2 TX2 1 ∈ GW := gw_t1 153 rfl rfl
theorem inlX2 : ∀ w ∈ u_ws RX2 TX2 2, w ∈ GW := in_ws (lt_s (lt_s (lt_0) ly_X2_0) ly_X2_1)
theorem ly_X3_0 : u_lay RX3 TX3 0 ∈ GW := gw_t1 73 rfl rfl
theorem ly_X3_1 : u_lay RX3 TX3 1 ∈ GW := gw_t1 75 rfl rfl
theorem ly_X3_2 : u_lay RX3 TX3 2 ∈ GW := gw_t1 77 rfl rfl
theorem ly_X3_3 : u_lay RX3 TX3 3 ∈ GW := gw_t1 79 rfl rfl
theorem ly_X3_4 : u_lay RX3 TX3 4 ∈ GW := gw_t1 81 rfl rfl
theorem ly_X3_5 : u_lay RX3 TX3 5 ∈ GW := gw_t1 83 rfl rfl
theorem inlX3 : ∀ w ∈ u_ws RX3 TX3 6, w ∈ GW := in_ws (lt_s (lt_s (lt_s (lt_s (lt_s (lt_s (lt_0) ly_X3_0) ly_X3_1) ly_X3_2) ly_X3_3) ly_X3_4) ly_X3_5)
theorem ly_X4_0 : u_lay RX4 TX4 0 ∈ GW := gw_t1 202 rfl rfl
theorem inlX4 : ∀ w ∈ u_ws RX4 TX4 1, w ∈ GW := in_ws (lt_s (lt_0) ly_X4_0)
theorem ly_X5_0 : u_lay RX5 TX5 0 ∈ GW := gw_t1 133 rfl rfl
theorem ly_X5_1 : u_lay RX5 TX5 1 ∈ GW := gw_t1 135 rfl rfl
theorem ly_X5_2 : u_lay RX5 TX5 2 ∈ GW := gw_t1 137 rfl rfl
theorem inlX5 : ∀ w ∈ u_ws RX5 TX5 3, w ∈ GW := in_ws (lt_s (lt_s (lt_s (lt_0) ly_X5_0) ly_X5_1) ly_X5_2)
theorem ly_X6_0 : u_lay RX6 TX6 0 ∈ GW := gw_t1 98 rfl rfl
theorem ly_X6_1 : u_lay RX6 TX6 1 ∈ GW := gw_t1 100 rfl rfl
theorem ly_X6_2 : u_lay RX6 TX6 2 ∈ GW := gw_t1 102 rfl rfl
theorem ly_X6_3 : u_lay RX6 TX6 3 ∈ GW := gw_t1 104 rfl rfl
theorem ly_X6_4 : u_lay RX6 TX6 4 ∈ GW := gw_t1 106 rfl rfl
theorem ly_X6_5 : u_lay RX6 TX6 5 ∈ GW := gw_t1 108 rfl rfl
theorem ly_X6_6 : u_lay RX6 TX6 6 ∈ GW := gw_t1 110 rfl rfl
theorem ly_X6_7 : u_lay RX6 TX6 7 ∈ GW := gw_t1 112 rfl rfl
theorem ly_X6_8 : u_lay RX6 TX6 8 ∈ GW := gw_t1 114 rfl rfl
theorem inlX6 : ∀ w ∈ u_ws RX6 TX6 9, w ∈ GW := in_ws (lt_s (lt_s (lt_s (lt_s (lt_s (lt_s (lt_s (lt_s (lt_s (lt_0) ly_X6_0) ly_X6_1) ly_X6_2) ly_X6_3) ly_X6_4) ly_X6_5) ly_X6_6) ly_X6_7) ly_X6_8)
theorem ly_X8_0 : u_lay RX8 TX8 0 ∈ GW := gw_t1 181 rfl rfl
theorem ly_X8_1 : u_lay RX8 TX8 1 ∈ GW := gw_t1 183 rfl rfl
theorem ly_X8_2 : u_lay RX8 TX8 2 ∈ GW := gw_t1 185 rfl rfl
theorem ly_X8_3 : u_lay RX8 TX8 3 ∈ GW := gw_t1 187 rfl rfl
theorem ly_X8_4 : u_lay RX8 TX8 4 ∈ GW := gw_t1 189 rfl rfl
theorem ly_X8_5 : u_lay RX8 TX8 5 ∈ GW := gw_t1 191 rfl rfl
theorem inlX8 : ∀ w ∈ u_ws RX8 TX8 6, w ∈ GW := in_ws (lt_s (lt_s (lt_s (lt_s (lt_s (lt_s (lt_0) ly_X8_0) ly_X8_1) ly_X8_2) ly_X8_3) ly_X8_4) ly_X8_5)
theorem ly_X10_0 : u_lay RX10 TX10 0 ∈ GW := gw_t1 38 rfl rfl
theorem ly_X10_1 : u_lay RX10 TX10 1 ∈ GW := gw_t1 40 rfl rfl
theorem inlX10 : ∀ w ∈ u_ws RX10 TX10 2, w ∈ GW := in_ws (lt_s (lt_s (lt_0) ly_X10_0) ly_X10_1)
theorem ly_X11_0 : u_lay RX11 TX11 0 ∈ GW := gw_t2 8 rfl rfl
theorem ly_X11_1 : u_lay RX11 TX11 1 ∈ GW := gw_t2 10 rfl rfl
theorem ly_X11_2 : u_lay RX11 TX11 2 ∈ GW := gw_t2 12 rfl rfl
theorem ly_X11_3 : u_lay RX11 TX11 3 ∈ GW := gw_t2 14 rfl rfl
theorem ly_X11_4 : u_lay RX11 TX11 4 ∈ GW := gw_t2 16 rfl rfl
theorem ly_X11_5 : u_lay RX11 TX11 5 ∈ GW := gw_t2 18 rfl rfl
theorem ly_X11_6 : u_lay RX11 TX11 6 ∈ GW := gw_t2 20 rfl rfl
theorem ly_X11_7 : u_lay RX11 TX11 7 ∈ GW := gw_t2 22 rfl rfl
theorem ly_X11_8 : u_lay RX11 TX11 8 ∈ GW := gw_t2 24 rfl rfl
theorem ly_X11_9 : u_lay RX11 TX11 9 ∈ GW := gw_t2 26 rfl rfl
theorem ly_X11_10 : u_lay RX11 TX11 10 ∈ GW := gw_t2 28 rfl rfl
theorem ly_X11_11 : u_lay RX11 TX11 11 ∈ GW := gw_t2 30 rfl rfl
theorem ly_X11_12 : u_lay RX11 TX11 12 ∈ GW := gw_t2 32 rfl rfl
theorem ly_X11_13 : u_lay RX11 TX11 13 ∈ GW := gw_t2 34 rfl rfl
theorem inlX11 : ∀ w ∈ u_ws RX11 TX11 14, w ∈ GW := in_ws (lt_s (lt_s (lt_s (lt_s (lt_s (lt_s (lt_s (lt_s (lt_s (lt_s (lt_s (lt_s (lt_s (lt_s (lt_0) ly_X11_0) ly_X11_1) ly_X11_2) ly_X11_3) ly_X11_4) ly_X11_5) ly_X11_6) ly_X11_7) ly_X11_8) ly_X11_9) ly_X11_10) ly_X11_11) ly_X11_12) ly_X11_13)
theorem ly_X12_0 : u_lay RX12 TX12 0 ∈ GW := gw_t4 182 rfl rfl
theorem ly_X12_1 : u_lay RX12 TX12 1 ∈ GW := gw_t4 184 rfl rfl
theorem ly_X12_2 : u_lay RX12 TX12 2 ∈ GW := gw_t4 186 rfl rfl
theorem ly_X12_3 : u_lay RX12 TX12 3 ∈ GW := gw_t4 188 rfl rfl
theorem ly_X12_4 : u_lay RX12 TX12 4 ∈ GW := gw_t4 190 rfl rfl
theorem ly_X12_5 : u_lay RX12 TX12 5 ∈ GW := gw_t4 192 rfl rfl
theorem ly_X12_6 : u_lay RX12 TX12 6 ∈ GW := gw_t4 194 rfl rfl
theorem ly_X12_7 : u_lay RX12 TX12 7 ∈ GW := gw_t4 196 rfl rfl
theorem ly_X12_8 : u_lay RX12 TX12 8 ∈ GW := gw_t4 198 rfl rfl
theorem ly_X12_9 : u_lay RX12 TX12 9 ∈ GW := gw_t4 200 rfl rfl
theorem ly_X12_10 : u_lay RX12 TX12 10 ∈ GW := gw_t4 202 rfl rfl
theorem ly_X12_11 : u_lay RX12 TX12 11 ∈ GW := gw_t4 204 rfl rfl
theorem ly_X12_12 : u_lay RX12 TX12 12 ∈ GW := gw_t4 206 rfl rfl
theorem ly_X12_13 : u_lay RX12 TX12 13 ∈ GW := gw_t4 208 rfl rfl
theorem ly_X12_14 : u_lay RX12 TX12 14 ∈ GW := gw_t4 210 rfl rfl
theorem ly_X12_15 : u_lay RX12 TX12 15 ∈ GW := gw_t4 212 rfl rfl
theorem ly_X12_16 : u_lay RX12 TX12 16 ∈ GW := gw_t4 214 rfl rfl
theorem ly_X12_17 : u_lay RX12 TX12 17 ∈ GW := gw_t4 216 rfl rfl
theorem ly_X12_18 : u_lay RX12 TX12 18 ∈ GW := gw_t4 218 rfl rfl
theorem ly_X12_19 : u_lay RX12 TX12 19 ∈ GW := gw_t4 220 rfl rfl
theorem ly_X12_20 : u_lay RX12 TX12 20 ∈ GW := gw_t4 222 rfl rfl
theorem ly_X12_21 : u_lay RX12 TX12 21 ∈ GW := gw_t4 224 rfl rfl
theorem ly_X12_22 : u_lay RX12 TX12 22 ∈ GW := gw_t4 226 rfl rfl
theorem ly_X12_23 : u_lay RX12 TX12 23 ∈ GW := gw_t4 228 rfl rfl
theorem ly_X12_24 : u_lay RX12 TX12 24 ∈ GW := gw_t4 230 rfl rfl
theorem ly_X12_25 : u_lay RX12 TX12 25 ∈ GW := gw_t4 232 rfl rfl
theorem ly_X12_26 : u_lay RX12 TX12 26 ∈ GW := gw_t4 234 rfl rfl
theorem ly_X12_27 : u_lay RX12 TX12 27 ∈ GW := gw_t4 236 rfl rfl
theorem ly_X12_28 : u_lay RX12 TX12 28 ∈ GW := gw_t4 238 rfl rfl
theorem ly_X12_29 : u_lay RX12 TX12 29 ∈ GW := gw_t5 0 rfl rfl
theorem inlX12 : ∀ w ∈ u_ws RX12 TX12 30, w ∈ GW := in_ws (lt_s (lt_s (lt_s (lt_s (lt_s (lt_s (lt_s (lt_s (lt_s (lt_s (lt_s (lt_s (lt_s (lt_s (lt_s (lt_s (lt_s (lt_s (lt_s (lt_s (lt_s (lt_s (lt_s (lt_s (lt_s (lt_s (lt_s (lt_s (lt_s (lt_s (lt_0) ly_X12_0) ly_X12_1) ly_X12_2) ly_X12_3) ly_X12_4) ly_X12_5) ly_X12_6) ly_X12_7) ly_X12_8) ly_X12_9) ly_X12_10) ly_X12_11) ly_X12_12) ly_X12_13) ly_X12_14) ly_X12_15) ly_X12_16) ly_X12_17) ly_X12_18) ly_X12_19) ly_X12_20) ly_X12_21) ly_X12_22) ly_X12_23) ly_X12_24) ly_X12_25) ly_X12_26) ly_X12_27) ly_X12_28) ly_X12_29)
theorem sh_0 : sh 0 = (9, 0) := by decide +kernel
theorem sh_1 : sh 1 = (8, 0) := by decide +kernel
theorem sh_2 : sh 2 = (11, 640) := by decide +kernel
theorem sh_3 : sh 3 = (6, 0) := by decide +kernel
theorem sh_4 : sh 4 = (3, 0) := by decide +kernel
theorem sh_5 : sh 5 = (11, 12) := by decide +kernel
theorem sh_6 : sh 6 = (11, 144) := by decide +kernel
theorem sh_7 : sh 7 = (12, 12) := by decide +kernel
theorem sh_8 : sh 8 = (3, 0) := by decide +kernel
theorem sh_9 : sh 9 = (11, 12) := by decide +kernel
theorem sh_10 : sh 10 = (11, 144) := by decide +kernel
theorem sh_11 : sh 11 = (5, 0) := by decide +kernel
theorem sh_12 : sh 12 = (14, 9) := by decide +kernel
theorem sh_13 : sh 13 = (3, 0) := by decide +kernel
theorem sh_14 : sh 14 = (11, 12) := by decide +kernel
theorem sh_15 : sh 15 = (11, 144) := by decide +kernel
theorem sh_16 : sh 16 = (3, 0) := by decide +kernel
theorem sh_17 : sh 17 = (11, 12) := by decide +kernel
theorem sh_18 : sh 18 = (11, 144) := by decide +kernel
theorem sh_19 : sh 19 = (3, 0) := by decide +kernel
theorem sh_20 : sh 20 = (11, 12) := by decide +kernel
theorem sh_21 : sh 21 = (11, 144) := by decide +kernel
theorem sh_22 : sh 22 = (3, 0) := by decide +kernel
theorem sh_23 : sh 23 = (11, 12) := by decide +kernel
theorem sh_24 : sh 24 = (11, 144) := by decide +kernel
theorem sh_25 : sh 25 = (3, 0) := by decide +kernel
theorem sh_26 : sh 26 = (11, 12) := by decide +kernel
theorem sh_27 : sh 27 = (11, 144) := by decide +kernel
theorem sh_28 : sh 28 = (3, 0) := by decide +kernel
theorem sh_29 : sh 29 = (11, 12) := by decide +kernel
theorem sh_30 : sh 30 = (11, 144) := by decide +kernel
theorem sh_31 : sh 31 = (3, 0) := by decide +kernel
theorem sh_32 : sh 32 = (11, 12) := by decide +kernel
theorem sh_33 : sh 33 = (11, 144) := by decide +kernel
theorem sh_34 : sh 34 = (3, 0) := by decide +kernel
theorem sh_35 : sh 35 = (11, 12) := by decide +kernel
theorem sh_36 : sh 36 = (11, 144) := by decide +kernel
theorem sh_37 : sh 37 = (3, 0) := by decide +kernel
theorem sh_38 : sh 38 = (11, 12) := by decide +kernel
theorem sh_39 : sh 39 = (11, 144) := by decide +kernel
theorem sh_40 : sh 40 = (2, 0) := by decide +kernel
theorem sh_41 : sh 41 = (3, 0) := by decide +kernel
theorem sh_42 : sh 42 = (11, 12) := by decide +kernel
theorem sh_43 : sh 43 = (11, 144) := by decide +kernel
theorem sh_44 : sh 44 = (2, 0) := by decide +kernel
theorem sh_45 : sh 45 = (3, 0) := by decide +kernel
theorem sh_46 : sh 46 = (11, 12) := by decide +kernel
theorem sh_47 : sh 47 = (11, 144) := by decide +kernel
theorem sh_48 : sh 48 = (1, 0) := by decide +kernel
theorem sh_49 : sh 49 = (7, 0) := by decide +kernel
theorem sh_50 : sh 50 = (13, 4096) := by decide +kernel
theorem sh_51 : sh 51 = (11, 12) := by decide +kernel
theorem sh_52 : sh 52 = (11, 12) := by decide +kernel
theorem sh_53 : sh 53 = (11, 924) := by decide +kernel
theorem sh_54 : sh 54 = (11, 12) := by decide +kernel
theorem sh_55 : sh 55 = (4, 0) := by decide +kernel
theorem sh_56 : sh 56 = (11, 4096) := by decide +kernel
theorem sh_57 : sh 57 = (0, 0) := by decide +kernel
theorem sh_58 : sh 58 = (12, 12) := by decide +kernel
theorem sh_59 : sh 59 = (11, 12) := by decide +kernel
theorem sh_60 : sh 60 = (10, 0) := by decide +kernel
theorem sh_61 : sh 61 = (11, 640) := by decide +kernel
theorem sh_62 : sh 62 = (11, 159) := by decide +kernel
theorem sh_63 : sh 63 = (11, 159) := by decide +kernel
theorem sh_64 : sh 64 = (11, 318) := by decide +kernel
theorem sh_65 : sh 65 = (11, 1272) := by decide +kernel
theorem sh_66 : sh 66 = (11, 159) := by decide +kernel
theorem sh_67 : sh 67 = (11, 159) := by decide +kernel
theorem sh_68 : sh 68 = (12, 12) := by decide +kernel
theorem sh_69 : sh 69 = (13, 2) := by decide +kernel
theorem sh_70 : sh 70 = (13, 4096) := by decide +kernel
theorem sh_71 : sh 71 = (11, 4096) := by decide +kernel
theorem sh_72 : sh 72 = (12, 12) := by decide +kernel
theorem sh_73 : sh 73 = (12, 12) := by decide +kernel
theorem sh_74 : sh 74 = (11, 12) := by decide +kernel
theorem sh_75 : sh 75 = (12, 1) := by decide +kernel
section GFIELDS
variable {p : Program} {l : Launch} {e : Env} {R : Room} {s : State} {m : MethodId} {args : Array Value} {below : List Frame} {meth : Method} {c : Code} {H : Heap} {locs : List Loc} {cells slots : Nat} {Q : State → Prop} {cc : ByteArray} {pc nL : Nat} {ls : Array Slot} {rest : List Value} {X : GX} {σ : GM} {own : String} {rt : Option FieldType}
theorem shN1 {n : Nat} (h : sh n = (3, 0)) : sh (n + 1) = (11, 12) ∧ sh (n + 2) = (11, 144) := by
  have hn := sh_lt' h (by decide)
  have key : ∀ n, n < 76 → sh n = (3, 0) → sh (n + 1) = (11, 12) ∧ sh (n + 2) = (11, 144) := by decide +kernel
  exact key n hn h
theorem shK1 {n : Nat} (h : sh n = (2, 0)) : sh (n + 1) = (3, 0) := by
  have hn := sh_lt' h (by decide)
  have key : ∀ n, n < 76 → sh n = (2, 0) → sh (n + 1) = (3, 0) := by decide +kernel
  exact key n hn h
theorem gcell_X0 {n : Nat} {r : Nat → Int32} {r2 : Nat → Int64} (h : sh n = (0, 0)) : gcell X n r r2 = .inr (0, gfs X.2.1 n r r2 0) := by unfold gcell; rw [h]; rfl
theorem recv_X0 (Γ : gC X p m meth c cc nL s args own rt) (hI : gI X σ s H locs) : ∃ cell : Cell, H[X.2.1 + 57]? = some cell ∧ cell.vm.isStatics = false ∧ s.vm.findClass RX0 = some cell.cls :=
  g_recv Γ.2.1 hI.1 (sh_lt' (show sh 57 = (0, 0) from by decide +kernel) (by decide)) (gcell_X0 (show sh 57 = (0, 0) from by decide +kernel)) (q := (RX0, TX0, 7)) rfl
theorem get_X0_weights (Γ : gC X p m meth c cc nL s args own rt) (hI : gI X σ s H locs) {index : Nat} (hlink : Cond.fieldLink own index "RingCutters$Discount" "weights" "[J" ∈ GW) (hdg : decode cc pc = .ok (.getfield index, 3)) (kk : W p l e R s m args below meth c H locs cells slots Q (F0 m (pc + 3) ls (.ref (X.2.1 + 58) :: rest))) : W p l e R s m args below meth c H locs cells slots Q (F0 m pc ls (.ref (X.2.1 + 57) :: rest)) :=
  g_get Γ hI 57 (sh_lt' (show sh 57 = (0, 0) from by decide +kernel) (by decide)) (gcell_X0 (show sh 57 = (0, 0) from by decide +kernel)) (C := RX0) (T := TX0) (N := 7) rfl inlX0 0 (by decide) hlink rfl hdg kk
theorem get_X0_pile (Γ : gC X p m meth c cc nL s args own rt) (hI : gI X σ s H locs) {index : Nat} (hlink : Cond.fieldLink own index "RingCutters$Discount" "pile" "[I" ∈ GW) (hdg : decode cc pc = .ok (.getfield index, 3)) (kk : W p l e R s m args below meth c H locs cells slots Q (F0 m (pc + 3) ls (.ref (X.2.1 + 59) :: rest))) : W p l e R s m args below meth c H locs cells slots Q (F0 m pc ls (.ref (X.2.1 + 57) :: rest)) :=
  g_get Γ hI 57 (sh_lt' (show sh 57 = (0, 0) from by decide +kernel) (by decide)) (gcell_X0 (show sh 57 = (0, 0) from by decide +kernel)) (C := RX0) (T := TX0) (N := 7) rfl inlX0 1 (by decide) hlink rfl hdg kk
theorem get_X0_piled (Γ : gC X p m meth c cc nL s args own rt) (hI : gI X σ s H locs) {index : Nat} (hlink : Cond.fieldLink own index "RingCutters$Discount" "piled" "I" ∈ GW) (hdg : decode cc pc = .ok (.getfield index, 3)) (kk : W p l e R s m args below meth c H locs cells slots Q (F0 m (pc + 3) ls (.int (σ.1 57 2) :: rest))) : W p l e R s m args below meth c H locs cells slots Q (F0 m pc ls (.ref (X.2.1 + 57) :: rest)) :=
  g_get Γ hI 57 (sh_lt' (show sh 57 = (0, 0) from by decide +kernel) (by decide)) (gcell_X0 (show sh 57 = (0, 0) from by decide +kernel)) (C := RX0) (T := TX0) (N := 7) rfl inlX0 2 (by decide) hlink rfl hdg kk
theorem put_X0_piled (Γ : gC X p m meth c cc nL s args own rt) (hI : gI X σ s H locs) {v : Int32} {index : Nat} (hlink : Cond.fieldLink own index "RingCutters$Discount" "piled" "I" ∈ GW) (hdg : decode cc pc = .ok (.putfield index, 3)) (kk : ∀ (H1 : Heap) (locs1 : List Loc), gI X (wI σ 57 2 v) s H1 locs1 → W p l e R s m args below meth c H1 locs1 cells slots Q (F0 m (pc + 3) ls rest)) : W p l e R s m args below meth c H locs cells slots Q (F0 m pc ls (.int v :: .ref (X.2.1 + 57) :: rest)) :=
  g_put Γ hI (wI σ 57 2 v) 57 (sh_lt' (show sh 57 = (0, 0) from by decide +kernel) (by decide)) (gcell_X0 (show sh 57 = (0, 0) from by decide +kernel)) (C := RX0) (T := TX0) (N := 7) tyX0 tyX0_ok nmX0 rfl inlX0 2 (by decide) hlink rfl (ty := .int) (by decide +kernel) rfl rfl (by simp [gfs]) (by rw [gcell_X0 (show sh 57 = (0, 0) from by decide +kernel)]; simp [gfs, wI]) wI_other hdg kk
theorem get_X0_left (Γ : gC X p m meth c cc nL s args own rt) (hI : gI X σ s H locs) {index : Nat} (hlink : Cond.fieldLink own index "RingCutters$Discount" "left" "I" ∈ GW) (hdg : decode cc pc = .ok (.getfield index, 3)) (kk : W p l e R s m args below meth c H locs cells slots Q (F0 m (pc + 3) ls (.int (σ.1 57 3) :: rest))) : W p l e R s m args below meth c H locs cells slots Q (F0 m pc ls (.ref (X.2.1 + 57) :: rest)) :=
  g_get Γ hI 57 (sh_lt' (show sh 57 = (0, 0) from by decide +kernel) (by decide)) (gcell_X0 (show sh 57 = (0, 0) from by decide +kernel)) (C := RX0) (T := TX0) (N := 7) rfl inlX0 3 (by decide) hlink rfl hdg kk
theorem put_X0_left (Γ : gC X p m meth c cc nL s args own rt) (hI : gI X σ s H locs) {v : Int32} {index : Nat} (hlink : Cond.fieldLink own index "RingCutters$Discount" "left" "I" ∈ GW) (hdg : decode cc pc = .ok (.putfield index, 3)) (kk : ∀ (H1 : Heap) (locs1 : List Loc), gI X (wI σ 57 3 v) s H1 locs1 → W p l e R s m args below meth c H1 locs1 cells slots Q (F0 m (pc + 3) ls rest)) : W p l e R s m args below meth c H locs cells slots Q (F0 m pc ls (.int v :: .ref (X.2.1 + 57) :: rest)) :=
  g_put Γ hI (wI σ 57 3 v) 57 (sh_lt' (show sh 57 = (0, 0) from by decide +kernel) (by decide)) (gcell_X0 (show sh 57 = (0, 0) from by decide +kernel)) (C := RX0) (T := TX0) (N := 7) tyX0 tyX0_ok nmX0 rfl inlX0 3 (by decide) hlink rfl (ty := .int) (by decide +kernel) rfl rfl (by simp [gfs]) (by rw [gcell_X0 (show sh 57 = (0, 0) from by decide +kernel)]; simp [gfs, wI]) wI_other hdg kk
theorem get_X0_cut (Γ : gC X p m meth c cc nL s args own rt) (hI : gI X σ s H locs) {index : Nat} (hlink : Cond.fieldLink own index "RingCutters$Discount" "cut" "I" ∈ GW) (hdg : decode cc pc = .ok (.getfield index, 3)) (kk : W p l e R s m args below meth c H locs cells slots Q (F0 m (pc + 3) ls (.int (σ.1 57 4) :: rest))) : W p l e R s m args below meth c H locs cells slots Q (F0 m pc ls (.ref (X.2.1 + 57) :: rest)) :=
  g_get Γ hI 57 (sh_lt' (show sh 57 = (0, 0) from by decide +kernel) (by decide)) (gcell_X0 (show sh 57 = (0, 0) from by decide +kernel)) (C := RX0) (T := TX0) (N := 7) rfl inlX0 4 (by decide) hlink rfl hdg kk
theorem put_X0_cut (Γ : gC X p m meth c cc nL s args own rt) (hI : gI X σ s H locs) {v : Int32} {index : Nat} (hlink : Cond.fieldLink own index "RingCutters$Discount" "cut" "I" ∈ GW) (hdg : decode cc pc = .ok (.putfield index, 3)) (kk : ∀ (H1 : Heap) (locs1 : List Loc), gI X (wI σ 57 4 v) s H1 locs1 → W p l e R s m args below meth c H1 locs1 cells slots Q (F0 m (pc + 3) ls rest)) : W p l e R s m args below meth c H locs cells slots Q (F0 m pc ls (.int v :: .ref (X.2.1 + 57) :: rest)) :=
  g_put Γ hI (wI σ 57 4 v) 57 (sh_lt' (show sh 57 = (0, 0) from by decide +kernel) (by decide)) (gcell_X0 (show sh 57 = (0, 0) from by decide +kernel)) (C := RX0) (T := TX0) (N := 7) tyX0 tyX0_ok nmX0 rfl inlX0 4 (by decide) hlink rfl (ty := .int) (by decide +kernel) rfl rfl (by simp [gfs]) (by rw [gcell_X0 (show sh 57 = (0, 0) from by decide +kernel)]; simp [gfs, wI]) wI_other hdg kk
theorem get_X0_sum (Γ : gC X p m meth c cc nL s args own rt) (hI : gI X σ s H locs) {index : Nat} (hlink : Cond.fieldLink own index "RingCutters$Discount" "sum" "J" ∈ GW) (hdg : decode cc pc = .ok (.getfield index, 3)) (kk : W p l e R s m args below meth c H locs cells slots Q (F0 m (pc + 3) ls (.long (σ.2 57 5) :: rest))) : W p l e R s m args below meth c H locs cells slots Q (F0 m pc ls (.ref (X.2.1 + 57) :: rest)) :=
  g_get Γ hI 57 (sh_lt' (show sh 57 = (0, 0) from by decide +kernel) (by decide)) (gcell_X0 (show sh 57 = (0, 0) from by decide +kernel)) (C := RX0) (T := TX0) (N := 7) rfl inlX0 5 (by decide) hlink rfl hdg kk
theorem put_X0_sum (Γ : gC X p m meth c cc nL s args own rt) (hI : gI X σ s H locs) {v : Int64} {index : Nat} (hlink : Cond.fieldLink own index "RingCutters$Discount" "sum" "J" ∈ GW) (hdg : decode cc pc = .ok (.putfield index, 3)) (kk : ∀ (H1 : Heap) (locs1 : List Loc), gI X (wL σ 57 5 v) s H1 locs1 → W p l e R s m args below meth c H1 locs1 cells slots Q (F0 m (pc + 3) ls rest)) : W p l e R s m args below meth c H locs cells slots Q (F0 m pc ls (.long v :: .ref (X.2.1 + 57) :: rest)) :=
  g_put Γ hI (wL σ 57 5 v) 57 (sh_lt' (show sh 57 = (0, 0) from by decide +kernel) (by decide)) (gcell_X0 (show sh 57 = (0, 0) from by decide +kernel)) (C := RX0) (T := TX0) (N := 7) tyX0 tyX0_ok nmX0 rfl inlX0 5 (by decide) hlink rfl (ty := .long) (by decide +kernel) rfl rfl (by simp [gfs]) (by rw [gcell_X0 (show sh 57 = (0, 0) from by decide +kernel)]; simp [gfs, wL]) wL_other hdg kk
theorem get_X0_below (Γ : gC X p m meth c cc nL s args own rt) (hI : gI X σ s H locs) {index : Nat} (hlink : Cond.fieldLink own index "RingCutters$Discount" "below" "J" ∈ GW) (hdg : decode cc pc = .ok (.getfield index, 3)) (kk : W p l e R s m args below meth c H locs cells slots Q (F0 m (pc + 3) ls (.long (σ.2 57 6) :: rest))) : W p l e R s m args below meth c H locs cells slots Q (F0 m pc ls (.ref (X.2.1 + 57) :: rest)) :=
  g_get Γ hI 57 (sh_lt' (show sh 57 = (0, 0) from by decide +kernel) (by decide)) (gcell_X0 (show sh 57 = (0, 0) from by decide +kernel)) (C := RX0) (T := TX0) (N := 7) rfl inlX0 6 (by decide) hlink rfl hdg kk
theorem put_X0_below (Γ : gC X p m meth c cc nL s args own rt) (hI : gI X σ s H locs) {v : Int64} {index : Nat} (hlink : Cond.fieldLink own index "RingCutters$Discount" "below" "J" ∈ GW) (hdg : decode cc pc = .ok (.putfield index, 3)) (kk : ∀ (H1 : Heap) (locs1 : List Loc), gI X (wL σ 57 6 v) s H1 locs1 → W p l e R s m args below meth c H1 locs1 cells slots Q (F0 m (pc + 3) ls rest)) : W p l e R s m args below meth c H locs cells slots Q (F0 m pc ls (.long v :: .ref (X.2.1 + 57) :: rest)) :=
  g_put Γ hI (wL σ 57 6 v) 57 (sh_lt' (show sh 57 = (0, 0) from by decide +kernel) (by decide)) (gcell_X0 (show sh 57 = (0, 0) from by decide +kernel)) (C := RX0) (T := TX0) (N := 7) tyX0 tyX0_ok nmX0 rfl inlX0 6 (by decide) hlink rfl (ty := .long) (by decide +kernel) rfl rfl (by simp [gfs]) (by rw [gcell_X0 (show sh 57 = (0, 0) from by decide +kernel)]; simp [gfs, wL]) wL_other hdg kk
theorem gcell_X1 {n : Nat} {r : Nat → Int32} {r2 : Nat → Int64} (h : sh n = (1, 0)) : gcell X n r r2 = .inr (1, gfs X.2.1 n r r2 1) := by unfold gcell; rw [h]; rfl
theorem recv_X1 (Γ : gC X p m meth c cc nL s args own rt) (hI : gI X σ s H locs) : ∃ cell : Cell, H[X.2.1 + 48]? = some cell ∧ cell.vm.isStatics = false ∧ s.vm.findClass RX1 = some cell.cls :=
  g_recv Γ.2.1 hI.1 (sh_lt' (show sh 48 = (1, 0) from by decide +kernel) (by decide)) (gcell_X1 (show sh 48 = (1, 0) from by decide +kernel)) (q := (RX1, TX1, 1)) rfl
theorem get_X1_seed (Γ : gC X p m meth c cc nL s args own rt) (hI : gI X σ s H locs) {index : Nat} (hlink : Cond.fieldLink own index "RingCutters$Draws" "seed" "I" ∈ GW) (hdg : decode cc pc = .ok (.getfield index, 3)) (kk : W p l e R s m args below meth c H locs cells slots Q (F0 m (pc + 3) ls (.int (σ.1 48 0) :: rest))) : W p l e R s m args below meth c H locs cells slots Q (F0 m pc ls (.ref (X.2.1 + 48) :: rest)) :=
  g_get Γ hI 48 (sh_lt' (show sh 48 = (1, 0) from by decide +kernel) (by decide)) (gcell_X1 (show sh 48 = (1, 0) from by decide +kernel)) (C := RX1) (T := TX1) (N := 1) rfl inlX1 0 (by decide) hlink rfl hdg kk
theorem put_X1_seed (Γ : gC X p m meth c cc nL s args own rt) (hI : gI X σ s H locs) {v : Int32} {index : Nat} (hlink : Cond.fieldLink own index "RingCutters$Draws" "seed" "I" ∈ GW) (hdg : decode cc pc = .ok (.putfield index, 3)) (kk : ∀ (H1 : Heap) (locs1 : List Loc), gI X (wI σ 48 0 v) s H1 locs1 → W p l e R s m args below meth c H1 locs1 cells slots Q (F0 m (pc + 3) ls rest)) : W p l e R s m args below meth c H locs cells slots Q (F0 m pc ls (.int v :: .ref (X.2.1 + 48) :: rest)) :=
  g_put Γ hI (wI σ 48 0 v) 48 (sh_lt' (show sh 48 = (1, 0) from by decide +kernel) (by decide)) (gcell_X1 (show sh 48 = (1, 0) from by decide +kernel)) (C := RX1) (T := TX1) (N := 1) tyX1 tyX1_ok nmX1 rfl inlX1 0 (by decide) hlink rfl (ty := .int) (by decide +kernel) rfl rfl (by simp [gfs]) (by rw [gcell_X1 (show sh 48 = (1, 0) from by decide +kernel)]; simp [gfs, wI]) wI_other hdg kk
theorem gcell_X2 {n : Nat} {r : Nat → Int32} {r2 : Nat → Int64} (h : sh n = (2, 0)) : gcell X n r r2 = .inr (2, gfs X.2.1 n r r2 2) := by unfold gcell; rw [h]; rfl
theorem recv_X2 {n : Nat} (hn : sh n = (2, 0)) (Γ : gC X p m meth c cc nL s args own rt) (hI : gI X σ s H locs) : ∃ cell : Cell, H[X.2.1 + n]? = some cell ∧ cell.vm.isStatics = false ∧ s.vm.findClass RX2 = some cell.cls :=
  g_recv Γ.2.1 hI.1 (sh_lt' hn (by decide)) (gcell_X2 hn) (q := (RX2, TX2, 2)) rfl
theorem get_X2_copy {n : Nat} (hn : sh n = (2, 0)) (Γ : gC X p m meth c cc nL s args own rt) (hI : gI X σ s H locs) {index : Nat} (hlink : Cond.fieldLink own index "RingCutters$Kept" "copy" "LRingCutters$Net;" ∈ GW) (hdg : decode cc pc = .ok (.getfield index, 3)) (kk : W p l e R s m args below meth c H locs cells slots Q (F0 m (pc + 3) ls (.ref (X.2.1 + (n + 1)) :: rest))) : W p l e R s m args below meth c H locs cells slots Q (F0 m pc ls (.ref (X.2.1 + n) :: rest)) :=
  g_get Γ hI n (sh_lt' hn (by decide)) (gcell_X2 hn) (C := RX2) (T := TX2) (N := 2) rfl inlX2 0 (by decide) hlink rfl hdg kk
theorem get_X2_filled {n : Nat} (hn : sh n = (2, 0)) (Γ : gC X p m meth c cc nL s args own rt) (hI : gI X σ s H locs) {index : Nat} (hlink : Cond.fieldLink own index "RingCutters$Kept" "filled" "Z" ∈ GW) (hdg : decode cc pc = .ok (.getfield index, 3)) (kk : W p l e R s m args below meth c H locs cells slots Q (F0 m (pc + 3) ls (.int (σ.1 n 1) :: rest))) : W p l e R s m args below meth c H locs cells slots Q (F0 m pc ls (.ref (X.2.1 + n) :: rest)) :=
  g_get Γ hI n (sh_lt' hn (by decide)) (gcell_X2 hn) (C := RX2) (T := TX2) (N := 2) rfl inlX2 1 (by decide) hlink rfl hdg kk
theorem put_X2_filled {n : Nat} (hn : sh n = (2, 0)) (Γ : gC X p m meth c cc nL s args own rt) (hI : gI X σ s H locs) {v : Int32} (hz : v &&& 1 = v) (hf : fits .boolean (.int v) = true) {index : Nat} (hlink : Cond.fieldLink own index "RingCutters$Kept" "filled" "Z" ∈ GW) (hdg : decode cc pc = .ok (.putfield index, 3)) (kk : ∀ (H1 : Heap) (locs1 : List Loc), gI X (wI σ n 1 v) s H1 locs1 → W p l e R s m args below meth c H1 locs1 cells slots Q (F0 m (pc + 3) ls rest)) : W p l e R s m args below meth c H locs cells slots Q (F0 m pc ls (.int v :: .ref (X.2.1 + n) :: rest)) :=
  g_put Γ hI (wI σ n 1 v) n (sh_lt' hn (by decide)) (gcell_X2 hn) (C := RX2) (T := TX2) (N := 2) tyX2 tyX2_ok nmX2 rfl inlX2 1 (by decide) hlink rfl (ty := .boolean) (by decide +kernel) (by show Value.int (v &&& 1) = .int v; rw [hz]) hf (by simp [gfs]) (by rw [gcell_X2 hn]; simp [gfs, wI]) wI_other hdg kk
theorem gcell_X3 {n : Nat} {r : Nat → Int32} {r2 : Nat → Int64} (h : sh n = (3, 0)) : gcell X n r r2 = .inr (3, gfs X.2.1 n r r2 3) := by unfold gcell; rw [h]; rfl
theorem recv_X3 {n : Nat} (hn : sh n = (3, 0)) (Γ : gC X p m meth c cc nL s args own rt) (hI : gI X σ s H locs) : ∃ cell : Cell, H[X.2.1 + n]? = some cell ∧ cell.vm.isStatics = false ∧ s.vm.findClass RX3 = some cell.cls :=
  g_recv Γ.2.1 hI.1 (sh_lt' hn (by decide)) (gcell_X3 hn) (q := (RX3, TX3, 6)) rfl
theorem get_X3_weights {n : Nat} (hn : sh n = (3, 0)) (Γ : gC X p m meth c cc nL s args own rt) (hI : gI X σ s H locs) {index : Nat} (hlink : Cond.fieldLink own index "RingCutters$Net" "weights" "[I" ∈ GW) (hdg : decode cc pc = .ok (.getfield index, 3)) (kk : W p l e R s m args below meth c H locs cells slots Q (F0 m (pc + 3) ls (.ref (X.2.1 + (n + 1)) :: rest))) : W p l e R s m args below meth c H locs cells slots Q (F0 m pc ls (.ref (X.2.1 + n) :: rest)) :=
  g_get Γ hI n (sh_lt' hn (by decide)) (gcell_X3 hn) (C := RX3) (T := TX3) (N := 6) rfl inlX3 0 (by decide) hlink rfl hdg kk
theorem get_X3_between {n : Nat} (hn : sh n = (3, 0)) (Γ : gC X p m meth c cc nL s args own rt) (hI : gI X σ s H locs) {index : Nat} (hlink : Cond.fieldLink own index "RingCutters$Net" "between" "[I" ∈ GW) (hdg : decode cc pc = .ok (.getfield index, 3)) (kk : W p l e R s m args below meth c H locs cells slots Q (F0 m (pc + 3) ls (.ref (X.2.1 + (n + 2)) :: rest))) : W p l e R s m args below meth c H locs cells slots Q (F0 m pc ls (.ref (X.2.1 + n) :: rest)) :=
  g_get Γ hI n (sh_lt' hn (by decide)) (gcell_X3 hn) (C := RX3) (T := TX3) (N := 6) rfl inlX3 1 (by decide) hlink rfl hdg kk
theorem get_X3_told {n : Nat} (hn : sh n = (3, 0)) (Γ : gC X p m meth c cc nL s args own rt) (hI : gI X σ s H locs) {index : Nat} (hlink : Cond.fieldLink own index "RingCutters$Net" "told" "I" ∈ GW) (hdg : decode cc pc = .ok (.getfield index, 3)) (kk : W p l e R s m args below meth c H locs cells slots Q (F0 m (pc + 3) ls (.int (σ.1 n 2) :: rest))) : W p l e R s m args below meth c H locs cells slots Q (F0 m pc ls (.ref (X.2.1 + n) :: rest)) :=
  g_get Γ hI n (sh_lt' hn (by decide)) (gcell_X3 hn) (C := RX3) (T := TX3) (N := 6) rfl inlX3 2 (by decide) hlink rfl hdg kk
theorem put_X3_told {n : Nat} (hn : sh n = (3, 0)) (Γ : gC X p m meth c cc nL s args own rt) (hI : gI X σ s H locs) {v : Int32} {index : Nat} (hlink : Cond.fieldLink own index "RingCutters$Net" "told" "I" ∈ GW) (hdg : decode cc pc = .ok (.putfield index, 3)) (kk : ∀ (H1 : Heap) (locs1 : List Loc), gI X (wI σ n 2 v) s H1 locs1 → W p l e R s m args below meth c H1 locs1 cells slots Q (F0 m (pc + 3) ls rest)) : W p l e R s m args below meth c H locs cells slots Q (F0 m pc ls (.int v :: .ref (X.2.1 + n) :: rest)) :=
  g_put Γ hI (wI σ n 2 v) n (sh_lt' hn (by decide)) (gcell_X3 hn) (C := RX3) (T := TX3) (N := 6) tyX3 tyX3_ok nmX3 rfl inlX3 2 (by decide) hlink rfl (ty := .int) (by decide +kernel) rfl rfl (by simp [gfs]) (by rw [gcell_X3 hn]; simp [gfs, wI]) wI_other hdg kk
theorem get_X3_there {n : Nat} (hn : sh n = (3, 0)) (Γ : gC X p m meth c cc nL s args own rt) (hI : gI X σ s H locs) {index : Nat} (hlink : Cond.fieldLink own index "RingCutters$Net" "there" "I" ∈ GW) (hdg : decode cc pc = .ok (.getfield index, 3)) (kk : W p l e R s m args below meth c H locs cells slots Q (F0 m (pc + 3) ls (.int (σ.1 n 3) :: rest))) : W p l e R s m args below meth c H locs cells slots Q (F0 m pc ls (.ref (X.2.1 + n) :: rest)) :=
  g_get Γ hI n (sh_lt' hn (by decide)) (gcell_X3 hn) (C := RX3) (T := TX3) (N := 6) rfl inlX3 3 (by decide) hlink rfl hdg kk
theorem put_X3_there {n : Nat} (hn : sh n = (3, 0)) (Γ : gC X p m meth c cc nL s args own rt) (hI : gI X σ s H locs) {v : Int32} {index : Nat} (hlink : Cond.fieldLink own index "RingCutters$Net" "there" "I" ∈ GW) (hdg : decode cc pc = .ok (.putfield index, 3)) (kk : ∀ (H1 : Heap) (locs1 : List Loc), gI X (wI σ n 3 v) s H1 locs1 → W p l e R s m args below meth c H1 locs1 cells slots Q (F0 m (pc + 3) ls rest)) : W p l e R s m args below meth c H locs cells slots Q (F0 m pc ls (.int v :: .ref (X.2.1 + n) :: rest)) :=
  g_put Γ hI (wI σ n 3 v) n (sh_lt' hn (by decide)) (gcell_X3 hn) (C := RX3) (T := TX3) (N := 6) tyX3 tyX3_ok nmX3 rfl inlX3 3 (by decide) hlink rfl (ty := .int) (by decide +kernel) rfl rfl (by simp [gfs]) (by rw [gcell_X3 hn]; simp [gfs, wI]) wI_other hdg kk
theorem get_X3_taken {n : Nat} (hn : sh n = (3, 0)) (Γ : gC X p m meth c cc nL s args own rt) (hI : gI X σ s H locs) {index : Nat} (hlink : Cond.fieldLink own index "RingCutters$Net" "taken" "I" ∈ GW) (hdg : decode cc pc = .ok (.getfield index, 3)) (kk : W p l e R s m args below meth c H locs cells slots Q (F0 m (pc + 3) ls (.int (σ.1 n 4) :: rest))) : W p l e R s m args below meth c H locs cells slots Q (F0 m pc ls (.ref (X.2.1 + n) :: rest)) :=
  g_get Γ hI n (sh_lt' hn (by decide)) (gcell_X3 hn) (C := RX3) (T := TX3) (N := 6) rfl inlX3 4 (by decide) hlink rfl hdg kk
theorem put_X3_taken {n : Nat} (hn : sh n = (3, 0)) (Γ : gC X p m meth c cc nL s args own rt) (hI : gI X σ s H locs) {v : Int32} {index : Nat} (hlink : Cond.fieldLink own index "RingCutters$Net" "taken" "I" ∈ GW) (hdg : decode cc pc = .ok (.putfield index, 3)) (kk : ∀ (H1 : Heap) (locs1 : List Loc), gI X (wI σ n 4 v) s H1 locs1 → W p l e R s m args below meth c H1 locs1 cells slots Q (F0 m (pc + 3) ls rest)) : W p l e R s m args below meth c H locs cells slots Q (F0 m pc ls (.int v :: .ref (X.2.1 + n) :: rest)) :=
  g_put Γ hI (wI σ n 4 v) n (sh_lt' hn (by decide)) (gcell_X3 hn) (C := RX3) (T := TX3) (N := 6) tyX3 tyX3_ok nmX3 rfl inlX3 4 (by decide) hlink rfl (ty := .int) (by decide +kernel) rfl rfl (by simp [gfs]) (by rw [gcell_X3 hn]; simp [gfs, wI]) wI_other hdg kk
theorem get_X3_lineCount {n : Nat} (hn : sh n = (3, 0)) (Γ : gC X p m meth c cc nL s args own rt) (hI : gI X σ s H locs) {index : Nat} (hlink : Cond.fieldLink own index "RingCutters$Net" "lineCount" "I" ∈ GW) (hdg : decode cc pc = .ok (.getfield index, 3)) (kk : W p l e R s m args below meth c H locs cells slots Q (F0 m (pc + 3) ls (.int (σ.1 n 5) :: rest))) : W p l e R s m args below meth c H locs cells slots Q (F0 m pc ls (.ref (X.2.1 + n) :: rest)) :=
  g_get Γ hI n (sh_lt' hn (by decide)) (gcell_X3 hn) (C := RX3) (T := TX3) (N := 6) rfl inlX3 5 (by decide) hlink rfl hdg kk
theorem put_X3_lineCount {n : Nat} (hn : sh n = (3, 0)) (Γ : gC X p m meth c cc nL s args own rt) (hI : gI X σ s H locs) {v : Int32} {index : Nat} (hlink : Cond.fieldLink own index "RingCutters$Net" "lineCount" "I" ∈ GW) (hdg : decode cc pc = .ok (.putfield index, 3)) (kk : ∀ (H1 : Heap) (locs1 : List Loc), gI X (wI σ n 5 v) s H1 locs1 → W p l e R s m args below meth c H1 locs1 cells slots Q (F0 m (pc + 3) ls rest)) : W p l e R s m args below meth c H locs cells slots Q (F0 m pc ls (.int v :: .ref (X.2.1 + n) :: rest)) :=
  g_put Γ hI (wI σ n 5 v) n (sh_lt' hn (by decide)) (gcell_X3 hn) (C := RX3) (T := TX3) (N := 6) tyX3 tyX3_ok nmX3 rfl inlX3 5 (by decide) hlink rfl (ty := .int) (by decide +kernel) rfl rfl (by simp [gfs]) (by rw [gcell_X3 hn]; simp [gfs, wI]) wI_other hdg kk
theorem gcell_X4 {n : Nat} {r : Nat → Int32} {r2 : Nat → Int64} (h : sh n = (4, 0)) : gcell X n r r2 = .inr (4, gfs X.2.1 n r r2 4) := by unfold gcell; rw [h]; rfl
theorem recv_X4 (Γ : gC X p m meth c cc nL s args own rt) (hI : gI X σ s H locs) : ∃ cell : Cell, H[X.2.1 + 55]? = some cell ∧ cell.vm.isStatics = false ∧ s.vm.findClass RX4 = some cell.cls :=
  g_recv Γ.2.1 hI.1 (sh_lt' (show sh 55 = (4, 0) from by decide +kernel) (by decide)) (gcell_X4 (show sh 55 = (4, 0) from by decide +kernel)) (q := (RX4, TX4, 1)) rfl
theorem get_X4_most (Γ : gC X p m meth c cc nL s args own rt) (hI : gI X σ s H locs) {index : Nat} (hlink : Cond.fieldLink own index "RingCutters$Packing" "most" "[I" ∈ GW) (hdg : decode cc pc = .ok (.getfield index, 3)) (kk : W p l e R s m args below meth c H locs cells slots Q (F0 m (pc + 3) ls (.ref (X.2.1 + 56) :: rest))) : W p l e R s m args below meth c H locs cells slots Q (F0 m pc ls (.ref (X.2.1 + 55) :: rest)) :=
  g_get Γ hI 55 (sh_lt' (show sh 55 = (4, 0) from by decide +kernel) (by decide)) (gcell_X4 (show sh 55 = (4, 0) from by decide +kernel)) (C := RX4) (T := TX4) (N := 1) rfl inlX4 0 (by decide) hlink rfl hdg kk
theorem gcell_X5 {n : Nat} {r : Nat → Int32} {r2 : Nat → Int64} (h : sh n = (5, 0)) : gcell X n r r2 = .inr (5, gfs X.2.1 n r r2 5) := by unfold gcell; rw [h]; rfl
theorem recv_X5 (Γ : gC X p m meth c cc nL s args own rt) (hI : gI X σ s H locs) : ∃ cell : Cell, H[X.2.1 + 11]? = some cell ∧ cell.vm.isStatics = false ∧ s.vm.findClass RX5 = some cell.cls :=
  g_recv Γ.2.1 hI.1 (sh_lt' (show sh 11 = (5, 0) from by decide +kernel) (by decide)) (gcell_X5 (show sh 11 = (5, 0) from by decide +kernel)) (q := (RX5, TX5, 3)) rfl
theorem get_X5_places (Γ : gC X p m meth c cc nL s args own rt) (hI : gI X σ s H locs) {index : Nat} (hlink : Cond.fieldLink own index "RingCutters$Past" "places" "[LRingCutters$Net;" ∈ GW) (hdg : decode cc pc = .ok (.getfield index, 3)) (kk : W p l e R s m args below meth c H locs cells slots Q (F0 m (pc + 3) ls (.ref (X.2.1 + 12) :: rest))) : W p l e R s m args below meth c H locs cells slots Q (F0 m pc ls (.ref (X.2.1 + 11) :: rest)) :=
  g_get Γ hI 11 (sh_lt' (show sh 11 = (5, 0) from by decide +kernel) (by decide)) (gcell_X5 (show sh 11 = (5, 0) from by decide +kernel)) (C := RX5) (T := TX5) (N := 3) rfl inlX5 0 (by decide) hlink rfl hdg kk
theorem get_X5_count (Γ : gC X p m meth c cc nL s args own rt) (hI : gI X σ s H locs) {index : Nat} (hlink : Cond.fieldLink own index "RingCutters$Past" "count" "I" ∈ GW) (hdg : decode cc pc = .ok (.getfield index, 3)) (kk : W p l e R s m args below meth c H locs cells slots Q (F0 m (pc + 3) ls (.int (σ.1 11 1) :: rest))) : W p l e R s m args below meth c H locs cells slots Q (F0 m pc ls (.ref (X.2.1 + 11) :: rest)) :=
  g_get Γ hI 11 (sh_lt' (show sh 11 = (5, 0) from by decide +kernel) (by decide)) (gcell_X5 (show sh 11 = (5, 0) from by decide +kernel)) (C := RX5) (T := TX5) (N := 3) rfl inlX5 1 (by decide) hlink rfl hdg kk
theorem put_X5_count (Γ : gC X p m meth c cc nL s args own rt) (hI : gI X σ s H locs) {v : Int32} {index : Nat} (hlink : Cond.fieldLink own index "RingCutters$Past" "count" "I" ∈ GW) (hdg : decode cc pc = .ok (.putfield index, 3)) (kk : ∀ (H1 : Heap) (locs1 : List Loc), gI X (wI σ 11 1 v) s H1 locs1 → W p l e R s m args below meth c H1 locs1 cells slots Q (F0 m (pc + 3) ls rest)) : W p l e R s m args below meth c H locs cells slots Q (F0 m pc ls (.int v :: .ref (X.2.1 + 11) :: rest)) :=
  g_put Γ hI (wI σ 11 1 v) 11 (sh_lt' (show sh 11 = (5, 0) from by decide +kernel) (by decide)) (gcell_X5 (show sh 11 = (5, 0) from by decide +kernel)) (C := RX5) (T := TX5) (N := 3) tyX5 tyX5_ok nmX5 rfl inlX5 1 (by decide) hlink rfl (ty := .int) (by decide +kernel) rfl rfl (by simp [gfs]) (by rw [gcell_X5 (show sh 11 = (5, 0) from by decide +kernel)]; simp [gfs, wI]) wI_other hdg kk
theorem get_X5_latest (Γ : gC X p m meth c cc nL s args own rt) (hI : gI X σ s H locs) {index : Nat} (hlink : Cond.fieldLink own index "RingCutters$Past" "latest" "I" ∈ GW) (hdg : decode cc pc = .ok (.getfield index, 3)) (kk : W p l e R s m args below meth c H locs cells slots Q (F0 m (pc + 3) ls (.int (σ.1 11 2) :: rest))) : W p l e R s m args below meth c H locs cells slots Q (F0 m pc ls (.ref (X.2.1 + 11) :: rest)) :=
  g_get Γ hI 11 (sh_lt' (show sh 11 = (5, 0) from by decide +kernel) (by decide)) (gcell_X5 (show sh 11 = (5, 0) from by decide +kernel)) (C := RX5) (T := TX5) (N := 3) rfl inlX5 2 (by decide) hlink rfl hdg kk
theorem put_X5_latest (Γ : gC X p m meth c cc nL s args own rt) (hI : gI X σ s H locs) {v : Int32} {index : Nat} (hlink : Cond.fieldLink own index "RingCutters$Past" "latest" "I" ∈ GW) (hdg : decode cc pc = .ok (.putfield index, 3)) (kk : ∀ (H1 : Heap) (locs1 : List Loc), gI X (wI σ 11 2 v) s H1 locs1 → W p l e R s m args below meth c H1 locs1 cells slots Q (F0 m (pc + 3) ls rest)) : W p l e R s m args below meth c H locs cells slots Q (F0 m pc ls (.int v :: .ref (X.2.1 + 11) :: rest)) :=
  g_put Γ hI (wI σ 11 2 v) 11 (sh_lt' (show sh 11 = (5, 0) from by decide +kernel) (by decide)) (gcell_X5 (show sh 11 = (5, 0) from by decide +kernel)) (C := RX5) (T := TX5) (N := 3) tyX5 tyX5_ok nmX5 rfl inlX5 2 (by decide) hlink rfl (ty := .int) (by decide +kernel) rfl rfl (by simp [gfs]) (by rw [gcell_X5 (show sh 11 = (5, 0) from by decide +kernel)]; simp [gfs, wI]) wI_other hdg kk
theorem gcell_X6 {n : Nat} {r : Nat → Int32} {r2 : Nat → Int64} (h : sh n = (6, 0)) : gcell X n r r2 = .inr (6, gfs X.2.1 n r r2 6) := by unfold gcell; rw [h]; rfl
theorem recv_X6 (Γ : gC X p m meth c cc nL s args own rt) (hI : gI X σ s H locs) : ∃ cell : Cell, H[X.2.1 + 3]? = some cell ∧ cell.vm.isStatics = false ∧ s.vm.findClass RX6 = some cell.cls :=
  g_recv Γ.2.1 hI.1 (sh_lt' (show sh 3 = (6, 0) from by decide +kernel) (by decide)) (gcell_X6 (show sh 3 = (6, 0) from by decide +kernel)) (q := (RX6, TX6, 9)) rfl
theorem get_X6_found (Γ : gC X p m meth c cc nL s args own rt) (hI : gI X σ s H locs) {index : Nat} (hlink : Cond.fieldLink own index "RingCutters$Reader" "found" "LRingCutters$Net;" ∈ GW) (hdg : decode cc pc = .ok (.getfield index, 3)) (kk : W p l e R s m args below meth c H locs cells slots Q (F0 m (pc + 3) ls (.ref (X.2.1 + 4) :: rest))) : W p l e R s m args below meth c H locs cells slots Q (F0 m pc ls (.ref (X.2.1 + 3) :: rest)) :=
  g_get Γ hI 3 (sh_lt' (show sh 3 = (6, 0) from by decide +kernel) (by decide)) (gcell_X6 (show sh 3 = (6, 0) from by decide +kernel)) (C := RX6) (T := TX6) (N := 9) rfl inlX6 0 (by decide) hlink rfl hdg kk
theorem get_X6_names (Γ : gC X p m meth c cc nL s args own rt) (hI : gI X σ s H locs) {index : Nat} (hlink : Cond.fieldLink own index "RingCutters$Reader" "names" "[J" ∈ GW) (hdg : decode cc pc = .ok (.getfield index, 3)) (kk : W p l e R s m args below meth c H locs cells slots Q (F0 m (pc + 3) ls (.ref (X.2.1 + 7) :: rest))) : W p l e R s m args below meth c H locs cells slots Q (F0 m pc ls (.ref (X.2.1 + 3) :: rest)) :=
  g_get Γ hI 3 (sh_lt' (show sh 3 = (6, 0) from by decide +kernel) (by decide)) (gcell_X6 (show sh 3 = (6, 0) from by decide +kernel)) (C := RX6) (T := TX6) (N := 9) rfl inlX6 1 (by decide) hlink rfl hdg kk
theorem get_X6_rows (Γ : gC X p m meth c cc nL s args own rt) (hI : gI X σ s H locs) {index : Nat} (hlink : Cond.fieldLink own index "RingCutters$Reader" "rows" "I" ∈ GW) (hdg : decode cc pc = .ok (.getfield index, 3)) (kk : W p l e R s m args below meth c H locs cells slots Q (F0 m (pc + 3) ls (.int (σ.1 3 2) :: rest))) : W p l e R s m args below meth c H locs cells slots Q (F0 m pc ls (.ref (X.2.1 + 3) :: rest)) :=
  g_get Γ hI 3 (sh_lt' (show sh 3 = (6, 0) from by decide +kernel) (by decide)) (gcell_X6 (show sh 3 = (6, 0) from by decide +kernel)) (C := RX6) (T := TX6) (N := 9) rfl inlX6 2 (by decide) hlink rfl hdg kk
theorem put_X6_rows (Γ : gC X p m meth c cc nL s args own rt) (hI : gI X σ s H locs) {v : Int32} {index : Nat} (hlink : Cond.fieldLink own index "RingCutters$Reader" "rows" "I" ∈ GW) (hdg : decode cc pc = .ok (.putfield index, 3)) (kk : ∀ (H1 : Heap) (locs1 : List Loc), gI X (wI σ 3 2 v) s H1 locs1 → W p l e R s m args below meth c H1 locs1 cells slots Q (F0 m (pc + 3) ls rest)) : W p l e R s m args below meth c H locs cells slots Q (F0 m pc ls (.int v :: .ref (X.2.1 + 3) :: rest)) :=
  g_put Γ hI (wI σ 3 2 v) 3 (sh_lt' (show sh 3 = (6, 0) from by decide +kernel) (by decide)) (gcell_X6 (show sh 3 = (6, 0) from by decide +kernel)) (C := RX6) (T := TX6) (N := 9) tyX6 tyX6_ok nmX6 rfl inlX6 2 (by decide) hlink rfl (ty := .int) (by decide +kernel) rfl rfl (by simp [gfs]) (by rw [gcell_X6 (show sh 3 = (6, 0) from by decide +kernel)]; simp [gfs, wI]) wI_other hdg kk
theorem get_X6_place (Γ : gC X p m meth c cc nL s args own rt) (hI : gI X σ s H locs) {index : Nat} (hlink : Cond.fieldLink own index "RingCutters$Reader" "place" "I" ∈ GW) (hdg : decode cc pc = .ok (.getfield index, 3)) (kk : W p l e R s m args below meth c H locs cells slots Q (F0 m (pc + 3) ls (.int (σ.1 3 3) :: rest))) : W p l e R s m args below meth c H locs cells slots Q (F0 m pc ls (.ref (X.2.1 + 3) :: rest)) :=
  g_get Γ hI 3 (sh_lt' (show sh 3 = (6, 0) from by decide +kernel) (by decide)) (gcell_X6 (show sh 3 = (6, 0) from by decide +kernel)) (C := RX6) (T := TX6) (N := 9) rfl inlX6 3 (by decide) hlink rfl hdg kk
theorem put_X6_place (Γ : gC X p m meth c cc nL s args own rt) (hI : gI X σ s H locs) {v : Int32} {index : Nat} (hlink : Cond.fieldLink own index "RingCutters$Reader" "place" "I" ∈ GW) (hdg : decode cc pc = .ok (.putfield index, 3)) (kk : ∀ (H1 : Heap) (locs1 : List Loc), gI X (wI σ 3 3 v) s H1 locs1 → W p l e R s m args below meth c H1 locs1 cells slots Q (F0 m (pc + 3) ls rest)) : W p l e R s m args below meth c H locs cells slots Q (F0 m pc ls (.int v :: .ref (X.2.1 + 3) :: rest)) :=
  g_put Γ hI (wI σ 3 3 v) 3 (sh_lt' (show sh 3 = (6, 0) from by decide +kernel) (by decide)) (gcell_X6 (show sh 3 = (6, 0) from by decide +kernel)) (C := RX6) (T := TX6) (N := 9) tyX6 tyX6_ok nmX6 rfl inlX6 3 (by decide) hlink rfl (ty := .int) (by decide +kernel) rfl rfl (by simp [gfs]) (by rw [gcell_X6 (show sh 3 = (6, 0) from by decide +kernel)]; simp [gfs, wI]) wI_other hdg kk
theorem get_X6_expected (Γ : gC X p m meth c cc nL s args own rt) (hI : gI X σ s H locs) {index : Nat} (hlink : Cond.fieldLink own index "RingCutters$Reader" "expected" "I" ∈ GW) (hdg : decode cc pc = .ok (.getfield index, 3)) (kk : W p l e R s m args below meth c H locs cells slots Q (F0 m (pc + 3) ls (.int (σ.1 3 4) :: rest))) : W p l e R s m args below meth c H locs cells slots Q (F0 m pc ls (.ref (X.2.1 + 3) :: rest)) :=
  g_get Γ hI 3 (sh_lt' (show sh 3 = (6, 0) from by decide +kernel) (by decide)) (gcell_X6 (show sh 3 = (6, 0) from by decide +kernel)) (C := RX6) (T := TX6) (N := 9) rfl inlX6 4 (by decide) hlink rfl hdg kk
theorem put_X6_expected (Γ : gC X p m meth c cc nL s args own rt) (hI : gI X σ s H locs) {v : Int32} {index : Nat} (hlink : Cond.fieldLink own index "RingCutters$Reader" "expected" "I" ∈ GW) (hdg : decode cc pc = .ok (.putfield index, 3)) (kk : ∀ (H1 : Heap) (locs1 : List Loc), gI X (wI σ 3 4 v) s H1 locs1 → W p l e R s m args below meth c H1 locs1 cells slots Q (F0 m (pc + 3) ls rest)) : W p l e R s m args below meth c H locs cells slots Q (F0 m pc ls (.int v :: .ref (X.2.1 + 3) :: rest)) :=
  g_put Γ hI (wI σ 3 4 v) 3 (sh_lt' (show sh 3 = (6, 0) from by decide +kernel) (by decide)) (gcell_X6 (show sh 3 = (6, 0) from by decide +kernel)) (C := RX6) (T := TX6) (N := 9) tyX6 tyX6_ok nmX6 rfl inlX6 4 (by decide) hlink rfl (ty := .int) (by decide +kernel) rfl rfl (by simp [gfs]) (by rw [gcell_X6 (show sh 3 = (6, 0) from by decide +kernel)]; simp [gfs, wI]) wI_other hdg kk
theorem get_X6_first (Γ : gC X p m meth c cc nL s args own rt) (hI : gI X σ s H locs) {index : Nat} (hlink : Cond.fieldLink own index "RingCutters$Reader" "first" "I" ∈ GW) (hdg : decode cc pc = .ok (.getfield index, 3)) (kk : W p l e R s m args below meth c H locs cells slots Q (F0 m (pc + 3) ls (.int (σ.1 3 5) :: rest))) : W p l e R s m args below meth c H locs cells slots Q (F0 m pc ls (.ref (X.2.1 + 3) :: rest)) :=
  g_get Γ hI 3 (sh_lt' (show sh 3 = (6, 0) from by decide +kernel) (by decide)) (gcell_X6 (show sh 3 = (6, 0) from by decide +kernel)) (C := RX6) (T := TX6) (N := 9) rfl inlX6 5 (by decide) hlink rfl hdg kk
theorem put_X6_first (Γ : gC X p m meth c cc nL s args own rt) (hI : gI X σ s H locs) {v : Int32} {index : Nat} (hlink : Cond.fieldLink own index "RingCutters$Reader" "first" "I" ∈ GW) (hdg : decode cc pc = .ok (.putfield index, 3)) (kk : ∀ (H1 : Heap) (locs1 : List Loc), gI X (wI σ 3 5 v) s H1 locs1 → W p l e R s m args below meth c H1 locs1 cells slots Q (F0 m (pc + 3) ls rest)) : W p l e R s m args below meth c H locs cells slots Q (F0 m pc ls (.int v :: .ref (X.2.1 + 3) :: rest)) :=
  g_put Γ hI (wI σ 3 5 v) 3 (sh_lt' (show sh 3 = (6, 0) from by decide +kernel) (by decide)) (gcell_X6 (show sh 3 = (6, 0) from by decide +kernel)) (C := RX6) (T := TX6) (N := 9) tyX6 tyX6_ok nmX6 rfl inlX6 5 (by decide) hlink rfl (ty := .int) (by decide +kernel) rfl rfl (by simp [gfs]) (by rw [gcell_X6 (show sh 3 = (6, 0) from by decide +kernel)]; simp [gfs, wI]) wI_other hdg kk
theorem get_X6_kind (Γ : gC X p m meth c cc nL s args own rt) (hI : gI X σ s H locs) {index : Nat} (hlink : Cond.fieldLink own index "RingCutters$Reader" "kind" "I" ∈ GW) (hdg : decode cc pc = .ok (.getfield index, 3)) (kk : W p l e R s m args below meth c H locs cells slots Q (F0 m (pc + 3) ls (.int (σ.1 3 6) :: rest))) : W p l e R s m args below meth c H locs cells slots Q (F0 m pc ls (.ref (X.2.1 + 3) :: rest)) :=
  g_get Γ hI 3 (sh_lt' (show sh 3 = (6, 0) from by decide +kernel) (by decide)) (gcell_X6 (show sh 3 = (6, 0) from by decide +kernel)) (C := RX6) (T := TX6) (N := 9) rfl inlX6 6 (by decide) hlink rfl hdg kk
theorem put_X6_kind (Γ : gC X p m meth c cc nL s args own rt) (hI : gI X σ s H locs) {v : Int32} {index : Nat} (hlink : Cond.fieldLink own index "RingCutters$Reader" "kind" "I" ∈ GW) (hdg : decode cc pc = .ok (.putfield index, 3)) (kk : ∀ (H1 : Heap) (locs1 : List Loc), gI X (wI σ 3 6 v) s H1 locs1 → W p l e R s m args below meth c H1 locs1 cells slots Q (F0 m (pc + 3) ls rest)) : W p l e R s m args below meth c H locs cells slots Q (F0 m pc ls (.int v :: .ref (X.2.1 + 3) :: rest)) :=
  g_put Γ hI (wI σ 3 6 v) 3 (sh_lt' (show sh 3 = (6, 0) from by decide +kernel) (by decide)) (gcell_X6 (show sh 3 = (6, 0) from by decide +kernel)) (C := RX6) (T := TX6) (N := 9) tyX6 tyX6_ok nmX6 rfl inlX6 6 (by decide) hlink rfl (ty := .int) (by decide +kernel) rfl rfl (by simp [gfs]) (by rw [gcell_X6 (show sh 3 = (6, 0) from by decide +kernel)]; simp [gfs, wI]) wI_other hdg kk
theorem get_X6_value (Γ : gC X p m meth c cc nL s args own rt) (hI : gI X σ s H locs) {index : Nat} (hlink : Cond.fieldLink own index "RingCutters$Reader" "value" "J" ∈ GW) (hdg : decode cc pc = .ok (.getfield index, 3)) (kk : W p l e R s m args below meth c H locs cells slots Q (F0 m (pc + 3) ls (.long (σ.2 3 7) :: rest))) : W p l e R s m args below meth c H locs cells slots Q (F0 m pc ls (.ref (X.2.1 + 3) :: rest)) :=
  g_get Γ hI 3 (sh_lt' (show sh 3 = (6, 0) from by decide +kernel) (by decide)) (gcell_X6 (show sh 3 = (6, 0) from by decide +kernel)) (C := RX6) (T := TX6) (N := 9) rfl inlX6 7 (by decide) hlink rfl hdg kk
theorem put_X6_value (Γ : gC X p m meth c cc nL s args own rt) (hI : gI X σ s H locs) {v : Int64} {index : Nat} (hlink : Cond.fieldLink own index "RingCutters$Reader" "value" "J" ∈ GW) (hdg : decode cc pc = .ok (.putfield index, 3)) (kk : ∀ (H1 : Heap) (locs1 : List Loc), gI X (wL σ 3 7 v) s H1 locs1 → W p l e R s m args below meth c H1 locs1 cells slots Q (F0 m (pc + 3) ls rest)) : W p l e R s m args below meth c H locs cells slots Q (F0 m pc ls (.long v :: .ref (X.2.1 + 3) :: rest)) :=
  g_put Γ hI (wL σ 3 7 v) 3 (sh_lt' (show sh 3 = (6, 0) from by decide +kernel) (by decide)) (gcell_X6 (show sh 3 = (6, 0) from by decide +kernel)) (C := RX6) (T := TX6) (N := 9) tyX6 tyX6_ok nmX6 rfl inlX6 7 (by decide) hlink rfl (ty := .long) (by decide +kernel) rfl rfl (by simp [gfs]) (by rw [gcell_X6 (show sh 3 = (6, 0) from by decide +kernel)]; simp [gfs, wL]) wL_other hdg kk
theorem get_X6_next (Γ : gC X p m meth c cc nL s args own rt) (hI : gI X σ s H locs) {index : Nat} (hlink : Cond.fieldLink own index "RingCutters$Reader" "next" "I" ∈ GW) (hdg : decode cc pc = .ok (.getfield index, 3)) (kk : W p l e R s m args below meth c H locs cells slots Q (F0 m (pc + 3) ls (.int (σ.1 3 8) :: rest))) : W p l e R s m args below meth c H locs cells slots Q (F0 m pc ls (.ref (X.2.1 + 3) :: rest)) :=
  g_get Γ hI 3 (sh_lt' (show sh 3 = (6, 0) from by decide +kernel) (by decide)) (gcell_X6 (show sh 3 = (6, 0) from by decide +kernel)) (C := RX6) (T := TX6) (N := 9) rfl inlX6 8 (by decide) hlink rfl hdg kk
theorem put_X6_next (Γ : gC X p m meth c cc nL s args own rt) (hI : gI X σ s H locs) {v : Int32} {index : Nat} (hlink : Cond.fieldLink own index "RingCutters$Reader" "next" "I" ∈ GW) (hdg : decode cc pc = .ok (.putfield index, 3)) (kk : ∀ (H1 : Heap) (locs1 : List Loc), gI X (wI σ 3 8 v) s H1 locs1 → W p l e R s m args below meth c H1 locs1 cells slots Q (F0 m (pc + 3) ls rest)) : W p l e R s m args below meth c H locs cells slots Q (F0 m pc ls (.int v :: .ref (X.2.1 + 3) :: rest)) :=
  g_put Γ hI (wI σ 3 8 v) 3 (sh_lt' (show sh 3 = (6, 0) from by decide +kernel) (by decide)) (gcell_X6 (show sh 3 = (6, 0) from by decide +kernel)) (C := RX6) (T := TX6) (N := 9) tyX6 tyX6_ok nmX6 rfl inlX6 8 (by decide) hlink rfl (ty := .int) (by decide +kernel) rfl rfl (by simp [gfs]) (by rw [gcell_X6 (show sh 3 = (6, 0) from by decide +kernel)]; simp [gfs, wI]) wI_other hdg kk
theorem gcell_X8 {n : Nat} {r : Nat → Int32} {r2 : Nat → Int64} (h : sh n = (7, 0)) : gcell X n r r2 = .inr (7, gfs X.2.1 n r r2 7) := by unfold gcell; rw [h]; rfl
theorem recv_X8 (Γ : gC X p m meth c cc nL s args own rt) (hI : gI X σ s H locs) : ∃ cell : Cell, H[X.2.1 + 49]? = some cell ∧ cell.vm.isStatics = false ∧ s.vm.findClass RX8 = some cell.cls :=
  g_recv Γ.2.1 hI.1 (sh_lt' (show sh 49 = (7, 0) from by decide +kernel) (by decide)) (gcell_X8 (show sh 49 = (7, 0) from by decide +kernel)) (q := (RX8, TX8, 6)) rfl
theorem get_X8_free (Γ : gC X p m meth c cc nL s args own rt) (hI : gI X σ s H locs) {index : Nat} (hlink : Cond.fieldLink own index "RingCutters$Rings" "free" "[Z" ∈ GW) (hdg : decode cc pc = .ok (.getfield index, 3)) (kk : W p l e R s m args below meth c H locs cells slots Q (F0 m (pc + 3) ls (.ref (X.2.1 + 50) :: rest))) : W p l e R s m args below meth c H locs cells slots Q (F0 m pc ls (.ref (X.2.1 + 49) :: rest)) :=
  g_get Γ hI 49 (sh_lt' (show sh 49 = (7, 0) from by decide +kernel) (by decide)) (gcell_X8 (show sh 49 = (7, 0) from by decide +kernel)) (C := RX8) (T := TX8) (N := 6) rfl inlX8 0 (by decide) hlink rfl hdg kk
theorem get_X8_beside (Γ : gC X p m meth c cc nL s args own rt) (hI : gI X σ s H locs) {index : Nat} (hlink : Cond.fieldLink own index "RingCutters$Rings" "beside" "[I" ∈ GW) (hdg : decode cc pc = .ok (.getfield index, 3)) (kk : W p l e R s m args below meth c H locs cells slots Q (F0 m (pc + 3) ls (.ref (X.2.1 + 51) :: rest))) : W p l e R s m args below meth c H locs cells slots Q (F0 m pc ls (.ref (X.2.1 + 49) :: rest)) :=
  g_get Γ hI 49 (sh_lt' (show sh 49 = (7, 0) from by decide +kernel) (by decide)) (gcell_X8 (show sh 49 = (7, 0) from by decide +kernel)) (C := RX8) (T := TX8) (N := 6) rfl inlX8 1 (by decide) hlink rfl hdg kk
theorem get_X8_doubled (Γ : gC X p m meth c cc nL s args own rt) (hI : gI X σ s H locs) {index : Nat} (hlink : Cond.fieldLink own index "RingCutters$Rings" "doubled" "[I" ∈ GW) (hdg : decode cc pc = .ok (.getfield index, 3)) (kk : W p l e R s m args below meth c H locs cells slots Q (F0 m (pc + 3) ls (.ref (X.2.1 + 52) :: rest))) : W p l e R s m args below meth c H locs cells slots Q (F0 m pc ls (.ref (X.2.1 + 49) :: rest)) :=
  g_get Γ hI 49 (sh_lt' (show sh 49 = (7, 0) from by decide +kernel) (by decide)) (gcell_X8 (show sh 49 = (7, 0) from by decide +kernel)) (C := RX8) (T := TX8) (N := 6) rfl inlX8 2 (by decide) hlink rfl hdg kk
theorem get_X8_ringSets (Γ : gC X p m meth c cc nL s args own rt) (hI : gI X σ s H locs) {index : Nat} (hlink : Cond.fieldLink own index "RingCutters$Rings" "ringSets" "[I" ∈ GW) (hdg : decode cc pc = .ok (.getfield index, 3)) (kk : W p l e R s m args below meth c H locs cells slots Q (F0 m (pc + 3) ls (.ref (X.2.1 + 53) :: rest))) : W p l e R s m args below meth c H locs cells slots Q (F0 m pc ls (.ref (X.2.1 + 49) :: rest)) :=
  g_get Γ hI 49 (sh_lt' (show sh 49 = (7, 0) from by decide +kernel) (by decide)) (gcell_X8 (show sh 49 = (7, 0) from by decide +kernel)) (C := RX8) (T := TX8) (N := 6) rfl inlX8 3 (by decide) hlink rfl hdg kk
theorem get_X8_starts (Γ : gC X p m meth c cc nL s args own rt) (hI : gI X σ s H locs) {index : Nat} (hlink : Cond.fieldLink own index "RingCutters$Rings" "starts" "[I" ∈ GW) (hdg : decode cc pc = .ok (.getfield index, 3)) (kk : W p l e R s m args below meth c H locs cells slots Q (F0 m (pc + 3) ls (.ref (X.2.1 + 54) :: rest))) : W p l e R s m args below meth c H locs cells slots Q (F0 m pc ls (.ref (X.2.1 + 49) :: rest)) :=
  g_get Γ hI 49 (sh_lt' (show sh 49 = (7, 0) from by decide +kernel) (by decide)) (gcell_X8 (show sh 49 = (7, 0) from by decide +kernel)) (C := RX8) (T := TX8) (N := 6) rfl inlX8 4 (by decide) hlink rfl hdg kk
theorem get_X8_many (Γ : gC X p m meth c cc nL s args own rt) (hI : gI X σ s H locs) {index : Nat} (hlink : Cond.fieldLink own index "RingCutters$Rings" "many" "I" ∈ GW) (hdg : decode cc pc = .ok (.getfield index, 3)) (kk : W p l e R s m args below meth c H locs cells slots Q (F0 m (pc + 3) ls (.int (σ.1 49 5) :: rest))) : W p l e R s m args below meth c H locs cells slots Q (F0 m pc ls (.ref (X.2.1 + 49) :: rest)) :=
  g_get Γ hI 49 (sh_lt' (show sh 49 = (7, 0) from by decide +kernel) (by decide)) (gcell_X8 (show sh 49 = (7, 0) from by decide +kernel)) (C := RX8) (T := TX8) (N := 6) rfl inlX8 5 (by decide) hlink rfl hdg kk
theorem put_X8_many (Γ : gC X p m meth c cc nL s args own rt) (hI : gI X σ s H locs) {v : Int32} {index : Nat} (hlink : Cond.fieldLink own index "RingCutters$Rings" "many" "I" ∈ GW) (hdg : decode cc pc = .ok (.putfield index, 3)) (kk : ∀ (H1 : Heap) (locs1 : List Loc), gI X (wI σ 49 5 v) s H1 locs1 → W p l e R s m args below meth c H1 locs1 cells slots Q (F0 m (pc + 3) ls rest)) : W p l e R s m args below meth c H locs cells slots Q (F0 m pc ls (.int v :: .ref (X.2.1 + 49) :: rest)) :=
  g_put Γ hI (wI σ 49 5 v) 49 (sh_lt' (show sh 49 = (7, 0) from by decide +kernel) (by decide)) (gcell_X8 (show sh 49 = (7, 0) from by decide +kernel)) (C := RX8) (T := TX8) (N := 6) tyX8 tyX8_ok nmX8 rfl inlX8 5 (by decide) hlink rfl (ty := .int) (by decide +kernel) rfl rfl (by simp [gfs]) (by rw [gcell_X8 (show sh 49 = (7, 0) from by decide +kernel)]; simp [gfs, wI]) wI_other hdg kk
theorem gcell_X10 {n : Nat} {r : Nat → Int32} {r2 : Nat → Int64} (h : sh n = (8, 0)) : gcell X n r r2 = .inr (8, gfs X.2.1 n r r2 8) := by unfold gcell; rw [h]; rfl
theorem recv_X10 (Γ : gC X p m meth c cc nL s args own rt) (hI : gI X σ s H locs) : ∃ cell : Cell, H[X.2.1 + 1]? = some cell ∧ cell.vm.isStatics = false ∧ s.vm.findClass RX10 = some cell.cls :=
  g_recv Γ.2.1 hI.1 (sh_lt' (show sh 1 = (8, 0) from by decide +kernel) (by decide)) (gcell_X10 (show sh 1 = (8, 0) from by decide +kernel)) (q := (RX10, TX10, 2)) rfl
theorem get_X10_bytes (Γ : gC X p m meth c cc nL s args own rt) (hI : gI X σ s H locs) {index : Nat} (hlink : Cond.fieldLink own index "RingCutters$Tape" "bytes" "[I" ∈ GW) (hdg : decode cc pc = .ok (.getfield index, 3)) (kk : W p l e R s m args below meth c H locs cells slots Q (F0 m (pc + 3) ls (.ref (X.2.1 + 2) :: rest))) : W p l e R s m args below meth c H locs cells slots Q (F0 m pc ls (.ref (X.2.1 + 1) :: rest)) :=
  g_get Γ hI 1 (sh_lt' (show sh 1 = (8, 0) from by decide +kernel) (by decide)) (gcell_X10 (show sh 1 = (8, 0) from by decide +kernel)) (C := RX10) (T := TX10) (N := 2) rfl inlX10 0 (by decide) hlink rfl hdg kk
theorem get_X10_length (Γ : gC X p m meth c cc nL s args own rt) (hI : gI X σ s H locs) {index : Nat} (hlink : Cond.fieldLink own index "RingCutters$Tape" "length" "I" ∈ GW) (hdg : decode cc pc = .ok (.getfield index, 3)) (kk : W p l e R s m args below meth c H locs cells slots Q (F0 m (pc + 3) ls (.int (σ.1 1 1) :: rest))) : W p l e R s m args below meth c H locs cells slots Q (F0 m pc ls (.ref (X.2.1 + 1) :: rest)) :=
  g_get Γ hI 1 (sh_lt' (show sh 1 = (8, 0) from by decide +kernel) (by decide)) (gcell_X10 (show sh 1 = (8, 0) from by decide +kernel)) (C := RX10) (T := TX10) (N := 2) rfl inlX10 1 (by decide) hlink rfl hdg kk
theorem put_X10_length (Γ : gC X p m meth c cc nL s args own rt) (hI : gI X σ s H locs) {v : Int32} {index : Nat} (hlink : Cond.fieldLink own index "RingCutters$Tape" "length" "I" ∈ GW) (hdg : decode cc pc = .ok (.putfield index, 3)) (kk : ∀ (H1 : Heap) (locs1 : List Loc), gI X (wI σ 1 1 v) s H1 locs1 → W p l e R s m args below meth c H1 locs1 cells slots Q (F0 m (pc + 3) ls rest)) : W p l e R s m args below meth c H locs cells slots Q (F0 m pc ls (.int v :: .ref (X.2.1 + 1) :: rest)) :=
  g_put Γ hI (wI σ 1 1 v) 1 (sh_lt' (show sh 1 = (8, 0) from by decide +kernel) (by decide)) (gcell_X10 (show sh 1 = (8, 0) from by decide +kernel)) (C := RX10) (T := TX10) (N := 2) tyX10 tyX10_ok nmX10 rfl inlX10 1 (by decide) hlink rfl (ty := .int) (by decide +kernel) rfl rfl (by simp [gfs]) (by rw [gcell_X10 (show sh 1 = (8, 0) from by decide +kernel)]; simp [gfs, wI]) wI_other hdg kk
theorem gcell_X11 {n : Nat} {r : Nat → Int32} {r2 : Nat → Int64} (h : sh n = (9, 0)) : gcell X n r r2 = .inr (9, gfs X.2.1 n r r2 9) := by unfold gcell; rw [h]; rfl
theorem recv_X11 (Γ : gC X p m meth c cc nL s args own rt) (hI : gI X σ s H locs) : ∃ cell : Cell, H[X.2.1 + 0]? = some cell ∧ cell.vm.isStatics = false ∧ s.vm.findClass RX11 = some cell.cls :=
  g_recv Γ.2.1 hI.1 (sh_lt' (show sh 0 = (9, 0) from by decide +kernel) (by decide)) (gcell_X11 (show sh 0 = (9, 0) from by decide +kernel)) (q := (RX11, TX11, 14)) rfl
theorem get_X11_tape (Γ : gC X p m meth c cc nL s args own rt) (hI : gI X σ s H locs) {index : Nat} (hlink : Cond.fieldLink own index "RingCutters" "tape" "LRingCutters$Tape;" ∈ GW) (hdg : decode cc pc = .ok (.getfield index, 3)) (kk : W p l e R s m args below meth c H locs cells slots Q (F0 m (pc + 3) ls (.ref (X.2.1 + 1) :: rest))) : W p l e R s m args below meth c H locs cells slots Q (F0 m pc ls (.ref (X.2.1 + 0) :: rest)) :=
  g_get Γ hI 0 (sh_lt' (show sh 0 = (9, 0) from by decide +kernel) (by decide)) (gcell_X11 (show sh 0 = (9, 0) from by decide +kernel)) (C := RX11) (T := TX11) (N := 14) rfl inlX11 0 (by decide) hlink rfl hdg kk
theorem get_X11_reader (Γ : gC X p m meth c cc nL s args own rt) (hI : gI X σ s H locs) {index : Nat} (hlink : Cond.fieldLink own index "RingCutters" "reader" "LRingCutters$Reader;" ∈ GW) (hdg : decode cc pc = .ok (.getfield index, 3)) (kk : W p l e R s m args below meth c H locs cells slots Q (F0 m (pc + 3) ls (.ref (X.2.1 + 3) :: rest))) : W p l e R s m args below meth c H locs cells slots Q (F0 m pc ls (.ref (X.2.1 + 0) :: rest)) :=
  g_get Γ hI 0 (sh_lt' (show sh 0 = (9, 0) from by decide +kernel) (by decide)) (gcell_X11 (show sh 0 = (9, 0) from by decide +kernel)) (C := RX11) (T := TX11) (N := 14) rfl inlX11 1 (by decide) hlink rfl hdg kk
theorem get_X11_net (Γ : gC X p m meth c cc nL s args own rt) (hI : gI X σ s H locs) {index : Nat} (hlink : Cond.fieldLink own index "RingCutters" "net" "LRingCutters$Net;" ∈ GW) (hdg : decode cc pc = .ok (.getfield index, 3)) (kk : W p l e R s m args below meth c H locs cells slots Q (F0 m (pc + 3) ls (.ref (X.2.1 + 8) :: rest))) : W p l e R s m args below meth c H locs cells slots Q (F0 m pc ls (.ref (X.2.1 + 0) :: rest)) :=
  g_get Γ hI 0 (sh_lt' (show sh 0 = (9, 0) from by decide +kernel) (by decide)) (gcell_X11 (show sh 0 = (9, 0) from by decide +kernel)) (C := RX11) (T := TX11) (N := 14) rfl inlX11 2 (by decide) hlink rfl hdg kk
theorem get_X11_past (Γ : gC X p m meth c cc nL s args own rt) (hI : gI X σ s H locs) {index : Nat} (hlink : Cond.fieldLink own index "RingCutters" "past" "LRingCutters$Past;" ∈ GW) (hdg : decode cc pc = .ok (.getfield index, 3)) (kk : W p l e R s m args below meth c H locs cells slots Q (F0 m (pc + 3) ls (.ref (X.2.1 + 11) :: rest))) : W p l e R s m args below meth c H locs cells slots Q (F0 m pc ls (.ref (X.2.1 + 0) :: rest)) :=
  g_get Γ hI 0 (sh_lt' (show sh 0 = (9, 0) from by decide +kernel) (by decide)) (gcell_X11 (show sh 0 = (9, 0) from by decide +kernel)) (C := RX11) (T := TX11) (N := 14) rfl inlX11 3 (by decide) hlink rfl hdg kk
theorem get_X11_imageZero (Γ : gC X p m meth c cc nL s args own rt) (hI : gI X σ s H locs) {index : Nat} (hlink : Cond.fieldLink own index "RingCutters" "imageZero" "LRingCutters$Kept;" ∈ GW) (hdg : decode cc pc = .ok (.getfield index, 3)) (kk : W p l e R s m args below meth c H locs cells slots Q (F0 m (pc + 3) ls (.ref (X.2.1 + 40) :: rest))) : W p l e R s m args below meth c H locs cells slots Q (F0 m pc ls (.ref (X.2.1 + 0) :: rest)) :=
  g_get Γ hI 0 (sh_lt' (show sh 0 = (9, 0) from by decide +kernel) (by decide)) (gcell_X11 (show sh 0 = (9, 0) from by decide +kernel)) (C := RX11) (T := TX11) (N := 14) rfl inlX11 4 (by decide) hlink rfl hdg kk
theorem get_X11_imageOne (Γ : gC X p m meth c cc nL s args own rt) (hI : gI X σ s H locs) {index : Nat} (hlink : Cond.fieldLink own index "RingCutters" "imageOne" "LRingCutters$Kept;" ∈ GW) (hdg : decode cc pc = .ok (.getfield index, 3)) (kk : W p l e R s m args below meth c H locs cells slots Q (F0 m (pc + 3) ls (.ref (X.2.1 + 44) :: rest))) : W p l e R s m args below meth c H locs cells slots Q (F0 m pc ls (.ref (X.2.1 + 0) :: rest)) :=
  g_get Γ hI 0 (sh_lt' (show sh 0 = (9, 0) from by decide +kernel) (by decide)) (gcell_X11 (show sh 0 = (9, 0) from by decide +kernel)) (C := RX11) (T := TX11) (N := 14) rfl inlX11 5 (by decide) hlink rfl hdg kk
theorem get_X11_draws (Γ : gC X p m meth c cc nL s args own rt) (hI : gI X σ s H locs) {index : Nat} (hlink : Cond.fieldLink own index "RingCutters" "draws" "LRingCutters$Draws;" ∈ GW) (hdg : decode cc pc = .ok (.getfield index, 3)) (kk : W p l e R s m args below meth c H locs cells slots Q (F0 m (pc + 3) ls (.ref (X.2.1 + 48) :: rest))) : W p l e R s m args below meth c H locs cells slots Q (F0 m pc ls (.ref (X.2.1 + 0) :: rest)) :=
  g_get Γ hI 0 (sh_lt' (show sh 0 = (9, 0) from by decide +kernel) (by decide)) (gcell_X11 (show sh 0 = (9, 0) from by decide +kernel)) (C := RX11) (T := TX11) (N := 14) rfl inlX11 6 (by decide) hlink rfl hdg kk
theorem get_X11_rings (Γ : gC X p m meth c cc nL s args own rt) (hI : gI X σ s H locs) {index : Nat} (hlink : Cond.fieldLink own index "RingCutters" "rings" "LRingCutters$Rings;" ∈ GW) (hdg : decode cc pc = .ok (.getfield index, 3)) (kk : W p l e R s m args below meth c H locs cells slots Q (F0 m (pc + 3) ls (.ref (X.2.1 + 49) :: rest))) : W p l e R s m args below meth c H locs cells slots Q (F0 m pc ls (.ref (X.2.1 + 0) :: rest)) :=
  g_get Γ hI 0 (sh_lt' (show sh 0 = (9, 0) from by decide +kernel) (by decide)) (gcell_X11 (show sh 0 = (9, 0) from by decide +kernel)) (C := RX11) (T := TX11) (N := 14) rfl inlX11 7 (by decide) hlink rfl hdg kk
theorem get_X11_packing (Γ : gC X p m meth c cc nL s args own rt) (hI : gI X σ s H locs) {index : Nat} (hlink : Cond.fieldLink own index "RingCutters" "packing" "LRingCutters$Packing;" ∈ GW) (hdg : decode cc pc = .ok (.getfield index, 3)) (kk : W p l e R s m args below meth c H locs cells slots Q (F0 m (pc + 3) ls (.ref (X.2.1 + 55) :: rest))) : W p l e R s m args below meth c H locs cells slots Q (F0 m pc ls (.ref (X.2.1 + 0) :: rest)) :=
  g_get Γ hI 0 (sh_lt' (show sh 0 = (9, 0) from by decide +kernel) (by decide)) (gcell_X11 (show sh 0 = (9, 0) from by decide +kernel)) (C := RX11) (T := TX11) (N := 14) rfl inlX11 8 (by decide) hlink rfl hdg kk
theorem get_X11_discount (Γ : gC X p m meth c cc nL s args own rt) (hI : gI X σ s H locs) {index : Nat} (hlink : Cond.fieldLink own index "RingCutters" "discount" "LRingCutters$Discount;" ∈ GW) (hdg : decode cc pc = .ok (.getfield index, 3)) (kk : W p l e R s m args below meth c H locs cells slots Q (F0 m (pc + 3) ls (.ref (X.2.1 + 57) :: rest))) : W p l e R s m args below meth c H locs cells slots Q (F0 m pc ls (.ref (X.2.1 + 0) :: rest)) :=
  g_get Γ hI 0 (sh_lt' (show sh 0 = (9, 0) from by decide +kernel) (by decide)) (gcell_X11 (show sh 0 = (9, 0) from by decide +kernel)) (C := RX11) (T := TX11) (N := 14) rfl inlX11 9 (by decide) hlink rfl hdg kk
theorem get_X11_faultKind (Γ : gC X p m meth c cc nL s args own rt) (hI : gI X σ s H locs) {index : Nat} (hlink : Cond.fieldLink own index "RingCutters" "faultKind" "I" ∈ GW) (hdg : decode cc pc = .ok (.getfield index, 3)) (kk : W p l e R s m args below meth c H locs cells slots Q (F0 m (pc + 3) ls (.int (σ.1 0 10) :: rest))) : W p l e R s m args below meth c H locs cells slots Q (F0 m pc ls (.ref (X.2.1 + 0) :: rest)) :=
  g_get Γ hI 0 (sh_lt' (show sh 0 = (9, 0) from by decide +kernel) (by decide)) (gcell_X11 (show sh 0 = (9, 0) from by decide +kernel)) (C := RX11) (T := TX11) (N := 14) rfl inlX11 10 (by decide) hlink rfl hdg kk
theorem put_X11_faultKind (Γ : gC X p m meth c cc nL s args own rt) (hI : gI X σ s H locs) {v : Int32} {index : Nat} (hlink : Cond.fieldLink own index "RingCutters" "faultKind" "I" ∈ GW) (hdg : decode cc pc = .ok (.putfield index, 3)) (kk : ∀ (H1 : Heap) (locs1 : List Loc), gI X (wI σ 0 10 v) s H1 locs1 → W p l e R s m args below meth c H1 locs1 cells slots Q (F0 m (pc + 3) ls rest)) : W p l e R s m args below meth c H locs cells slots Q (F0 m pc ls (.int v :: .ref (X.2.1 + 0) :: rest)) :=
  g_put Γ hI (wI σ 0 10 v) 0 (sh_lt' (show sh 0 = (9, 0) from by decide +kernel) (by decide)) (gcell_X11 (show sh 0 = (9, 0) from by decide +kernel)) (C := RX11) (T := TX11) (N := 14) tyX11 tyX11_ok nmX11 rfl inlX11 10 (by decide) hlink rfl (ty := .int) (by decide +kernel) rfl rfl (by simp [gfs]) (by rw [gcell_X11 (show sh 0 = (9, 0) from by decide +kernel)]; simp [gfs, wI]) wI_other hdg kk
theorem get_X11_ringsStale (Γ : gC X p m meth c cc nL s args own rt) (hI : gI X σ s H locs) {index : Nat} (hlink : Cond.fieldLink own index "RingCutters" "ringsStale" "Z" ∈ GW) (hdg : decode cc pc = .ok (.getfield index, 3)) (kk : W p l e R s m args below meth c H locs cells slots Q (F0 m (pc + 3) ls (.int (σ.1 0 11) :: rest))) : W p l e R s m args below meth c H locs cells slots Q (F0 m pc ls (.ref (X.2.1 + 0) :: rest)) :=
  g_get Γ hI 0 (sh_lt' (show sh 0 = (9, 0) from by decide +kernel) (by decide)) (gcell_X11 (show sh 0 = (9, 0) from by decide +kernel)) (C := RX11) (T := TX11) (N := 14) rfl inlX11 11 (by decide) hlink rfl hdg kk
theorem put_X11_ringsStale (Γ : gC X p m meth c cc nL s args own rt) (hI : gI X σ s H locs) {v : Int32} (hz : v &&& 1 = v) (hf : fits .boolean (.int v) = true) {index : Nat} (hlink : Cond.fieldLink own index "RingCutters" "ringsStale" "Z" ∈ GW) (hdg : decode cc pc = .ok (.putfield index, 3)) (kk : ∀ (H1 : Heap) (locs1 : List Loc), gI X (wI σ 0 11 v) s H1 locs1 → W p l e R s m args below meth c H1 locs1 cells slots Q (F0 m (pc + 3) ls rest)) : W p l e R s m args below meth c H locs cells slots Q (F0 m pc ls (.int v :: .ref (X.2.1 + 0) :: rest)) :=
  g_put Γ hI (wI σ 0 11 v) 0 (sh_lt' (show sh 0 = (9, 0) from by decide +kernel) (by decide)) (gcell_X11 (show sh 0 = (9, 0) from by decide +kernel)) (C := RX11) (T := TX11) (N := 14) tyX11 tyX11_ok nmX11 rfl inlX11 11 (by decide) hlink rfl (ty := .boolean) (by decide +kernel) (by show Value.int (v &&& 1) = .int v; rw [hz]) hf (by simp [gfs]) (by rw [gcell_X11 (show sh 0 = (9, 0) from by decide +kernel)]; simp [gfs, wI]) wI_other hdg kk
theorem get_X11_packingStale (Γ : gC X p m meth c cc nL s args own rt) (hI : gI X σ s H locs) {index : Nat} (hlink : Cond.fieldLink own index "RingCutters" "packingStale" "Z" ∈ GW) (hdg : decode cc pc = .ok (.getfield index, 3)) (kk : W p l e R s m args below meth c H locs cells slots Q (F0 m (pc + 3) ls (.int (σ.1 0 12) :: rest))) : W p l e R s m args below meth c H locs cells slots Q (F0 m pc ls (.ref (X.2.1 + 0) :: rest)) :=
  g_get Γ hI 0 (sh_lt' (show sh 0 = (9, 0) from by decide +kernel) (by decide)) (gcell_X11 (show sh 0 = (9, 0) from by decide +kernel)) (C := RX11) (T := TX11) (N := 14) rfl inlX11 12 (by decide) hlink rfl hdg kk
theorem put_X11_packingStale (Γ : gC X p m meth c cc nL s args own rt) (hI : gI X σ s H locs) {v : Int32} (hz : v &&& 1 = v) (hf : fits .boolean (.int v) = true) {index : Nat} (hlink : Cond.fieldLink own index "RingCutters" "packingStale" "Z" ∈ GW) (hdg : decode cc pc = .ok (.putfield index, 3)) (kk : ∀ (H1 : Heap) (locs1 : List Loc), gI X (wI σ 0 12 v) s H1 locs1 → W p l e R s m args below meth c H1 locs1 cells slots Q (F0 m (pc + 3) ls rest)) : W p l e R s m args below meth c H locs cells slots Q (F0 m pc ls (.int v :: .ref (X.2.1 + 0) :: rest)) :=
  g_put Γ hI (wI σ 0 12 v) 0 (sh_lt' (show sh 0 = (9, 0) from by decide +kernel) (by decide)) (gcell_X11 (show sh 0 = (9, 0) from by decide +kernel)) (C := RX11) (T := TX11) (N := 14) tyX11 tyX11_ok nmX11 rfl inlX11 12 (by decide) hlink rfl (ty := .boolean) (by decide +kernel) (by show Value.int (v &&& 1) = .int v; rw [hz]) hf (by simp [gfs]) (by rw [gcell_X11 (show sh 0 = (9, 0) from by decide +kernel)]; simp [gfs, wI]) wI_other hdg kk
theorem get_X11_discountStale (Γ : gC X p m meth c cc nL s args own rt) (hI : gI X σ s H locs) {index : Nat} (hlink : Cond.fieldLink own index "RingCutters" "discountStale" "Z" ∈ GW) (hdg : decode cc pc = .ok (.getfield index, 3)) (kk : W p l e R s m args below meth c H locs cells slots Q (F0 m (pc + 3) ls (.int (σ.1 0 13) :: rest))) : W p l e R s m args below meth c H locs cells slots Q (F0 m pc ls (.ref (X.2.1 + 0) :: rest)) :=
  g_get Γ hI 0 (sh_lt' (show sh 0 = (9, 0) from by decide +kernel) (by decide)) (gcell_X11 (show sh 0 = (9, 0) from by decide +kernel)) (C := RX11) (T := TX11) (N := 14) rfl inlX11 13 (by decide) hlink rfl hdg kk
theorem put_X11_discountStale (Γ : gC X p m meth c cc nL s args own rt) (hI : gI X σ s H locs) {v : Int32} (hz : v &&& 1 = v) (hf : fits .boolean (.int v) = true) {index : Nat} (hlink : Cond.fieldLink own index "RingCutters" "discountStale" "Z" ∈ GW) (hdg : decode cc pc = .ok (.putfield index, 3)) (kk : ∀ (H1 : Heap) (locs1 : List Loc), gI X (wI σ 0 13 v) s H1 locs1 → W p l e R s m args below meth c H1 locs1 cells slots Q (F0 m (pc + 3) ls rest)) : W p l e R s m args below meth c H locs cells slots Q (F0 m pc ls (.int v :: .ref (X.2.1 + 0) :: rest)) :=
  g_put Γ hI (wI σ 0 13 v) 0 (sh_lt' (show sh 0 = (9, 0) from by decide +kernel) (by decide)) (gcell_X11 (show sh 0 = (9, 0) from by decide +kernel)) (C := RX11) (T := TX11) (N := 14) tyX11 tyX11_ok nmX11 rfl inlX11 13 (by decide) hlink rfl (ty := .boolean) (by decide +kernel) (by show Value.int (v &&& 1) = .int v; rw [hz]) hf (by simp [gfs]) (by rw [gcell_X11 (show sh 0 = (9, 0) from by decide +kernel)]; simp [gfs, wI]) wI_other hdg kk
theorem gcell_X12 {n : Nat} {r : Nat → Int32} {r2 : Nat → Int64} (h : sh n = (10, 0)) : gcell X n r r2 = .inr (10, gfs X.2.1 n r r2 10) := by unfold gcell; rw [h]; rfl
theorem recv_X12 (Γ : gC X p m meth c cc nL s args own rt) (hI : gI X σ s H locs) : ∃ cell : Cell, H[X.2.1 + 60]? = some cell ∧ cell.vm.isStatics = false ∧ s.vm.findClass RX12 = some cell.cls :=
  g_recv Γ.2.1 hI.1 (sh_lt' (show sh 60 = (10, 0) from by decide +kernel) (by decide)) (gcell_X12 (show sh 60 = (10, 0) from by decide +kernel)) (q := (RX12, TX12, 30)) rfl
theorem get_X12_thrown (Γ : gC X p m meth c cc nL s args own rt) (hI : gI X σ s H locs) {index : Nat} (hlink : Cond.fieldLink own index "RingCuttersModel" "thrown" "I" ∈ GW) (hdg : decode cc pc = .ok (.getfield index, 3)) (kk : W p l e R s m args below meth c H locs cells slots Q (F0 m (pc + 3) ls (.int (σ.1 60 0) :: rest))) : W p l e R s m args below meth c H locs cells slots Q (F0 m pc ls (.ref (X.2.1 + 60) :: rest)) :=
  g_get Γ hI 60 (sh_lt' (show sh 60 = (10, 0) from by decide +kernel) (by decide)) (gcell_X12 (show sh 60 = (10, 0) from by decide +kernel)) (C := RX12) (T := TX12) (N := 30) rfl inlX12 0 (by decide) hlink rfl hdg kk
theorem put_X12_thrown (Γ : gC X p m meth c cc nL s args own rt) (hI : gI X σ s H locs) {v : Int32} {index : Nat} (hlink : Cond.fieldLink own index "RingCuttersModel" "thrown" "I" ∈ GW) (hdg : decode cc pc = .ok (.putfield index, 3)) (kk : ∀ (H1 : Heap) (locs1 : List Loc), gI X (wI σ 60 0 v) s H1 locs1 → W p l e R s m args below meth c H1 locs1 cells slots Q (F0 m (pc + 3) ls rest)) : W p l e R s m args below meth c H locs cells slots Q (F0 m pc ls (.int v :: .ref (X.2.1 + 60) :: rest)) :=
  g_put Γ hI (wI σ 60 0 v) 60 (sh_lt' (show sh 60 = (10, 0) from by decide +kernel) (by decide)) (gcell_X12 (show sh 60 = (10, 0) from by decide +kernel)) (C := RX12) (T := TX12) (N := 30) tyX12 tyX12_ok nmX12 rfl inlX12 0 (by decide) hlink rfl (ty := .int) (by decide +kernel) rfl rfl (by simp [gfs]) (by rw [gcell_X12 (show sh 60 = (10, 0) from by decide +kernel)]; simp [gfs, wI]) wI_other hdg kk
theorem get_X12_tape (Γ : gC X p m meth c cc nL s args own rt) (hI : gI X σ s H locs) {index : Nat} (hlink : Cond.fieldLink own index "RingCuttersModel" "tape" "[I" ∈ GW) (hdg : decode cc pc = .ok (.getfield index, 3)) (kk : W p l e R s m args below meth c H locs cells slots Q (F0 m (pc + 3) ls (.ref (X.2.1 + 61) :: rest))) : W p l e R s m args below meth c H locs cells slots Q (F0 m pc ls (.ref (X.2.1 + 60) :: rest)) :=
  g_get Γ hI 60 (sh_lt' (show sh 60 = (10, 0) from by decide +kernel) (by decide)) (gcell_X12 (show sh 60 = (10, 0) from by decide +kernel)) (C := RX12) (T := TX12) (N := 30) rfl inlX12 1 (by decide) hlink rfl hdg kk
theorem get_X12_taped (Γ : gC X p m meth c cc nL s args own rt) (hI : gI X σ s H locs) {index : Nat} (hlink : Cond.fieldLink own index "RingCuttersModel" "taped" "I" ∈ GW) (hdg : decode cc pc = .ok (.getfield index, 3)) (kk : W p l e R s m args below meth c H locs cells slots Q (F0 m (pc + 3) ls (.int (σ.1 60 2) :: rest))) : W p l e R s m args below meth c H locs cells slots Q (F0 m pc ls (.ref (X.2.1 + 60) :: rest)) :=
  g_get Γ hI 60 (sh_lt' (show sh 60 = (10, 0) from by decide +kernel) (by decide)) (gcell_X12 (show sh 60 = (10, 0) from by decide +kernel)) (C := RX12) (T := TX12) (N := 30) rfl inlX12 2 (by decide) hlink rfl hdg kk
theorem put_X12_taped (Γ : gC X p m meth c cc nL s args own rt) (hI : gI X σ s H locs) {v : Int32} {index : Nat} (hlink : Cond.fieldLink own index "RingCuttersModel" "taped" "I" ∈ GW) (hdg : decode cc pc = .ok (.putfield index, 3)) (kk : ∀ (H1 : Heap) (locs1 : List Loc), gI X (wI σ 60 2 v) s H1 locs1 → W p l e R s m args below meth c H1 locs1 cells slots Q (F0 m (pc + 3) ls rest)) : W p l e R s m args below meth c H locs cells slots Q (F0 m pc ls (.int v :: .ref (X.2.1 + 60) :: rest)) :=
  g_put Γ hI (wI σ 60 2 v) 60 (sh_lt' (show sh 60 = (10, 0) from by decide +kernel) (by decide)) (gcell_X12 (show sh 60 = (10, 0) from by decide +kernel)) (C := RX12) (T := TX12) (N := 30) tyX12 tyX12_ok nmX12 rfl inlX12 2 (by decide) hlink rfl (ty := .int) (by decide +kernel) rfl rfl (by simp [gfs]) (by rw [gcell_X12 (show sh 60 = (10, 0) from by decide +kernel)]; simp [gfs, wI]) wI_other hdg kk
theorem get_X12_size (Γ : gC X p m meth c cc nL s args own rt) (hI : gI X σ s H locs) {index : Nat} (hlink : Cond.fieldLink own index "RingCuttersModel" "size" "I" ∈ GW) (hdg : decode cc pc = .ok (.getfield index, 3)) (kk : W p l e R s m args below meth c H locs cells slots Q (F0 m (pc + 3) ls (.int (σ.1 60 3) :: rest))) : W p l e R s m args below meth c H locs cells slots Q (F0 m pc ls (.ref (X.2.1 + 60) :: rest)) :=
  g_get Γ hI 60 (sh_lt' (show sh 60 = (10, 0) from by decide +kernel) (by decide)) (gcell_X12 (show sh 60 = (10, 0) from by decide +kernel)) (C := RX12) (T := TX12) (N := 30) rfl inlX12 3 (by decide) hlink rfl hdg kk
theorem put_X12_size (Γ : gC X p m meth c cc nL s args own rt) (hI : gI X σ s H locs) {v : Int32} {index : Nat} (hlink : Cond.fieldLink own index "RingCuttersModel" "size" "I" ∈ GW) (hdg : decode cc pc = .ok (.putfield index, 3)) (kk : ∀ (H1 : Heap) (locs1 : List Loc), gI X (wI σ 60 3 v) s H1 locs1 → W p l e R s m args below meth c H1 locs1 cells slots Q (F0 m (pc + 3) ls rest)) : W p l e R s m args below meth c H locs cells slots Q (F0 m pc ls (.int v :: .ref (X.2.1 + 60) :: rest)) :=
  g_put Γ hI (wI σ 60 3 v) 60 (sh_lt' (show sh 60 = (10, 0) from by decide +kernel) (by decide)) (gcell_X12 (show sh 60 = (10, 0) from by decide +kernel)) (C := RX12) (T := TX12) (N := 30) tyX12 tyX12_ok nmX12 rfl inlX12 3 (by decide) hlink rfl (ty := .int) (by decide +kernel) rfl rfl (by simp [gfs]) (by rw [gcell_X12 (show sh 60 = (10, 0) from by decide +kernel)]; simp [gfs, wI]) wI_other hdg kk
theorem get_X12_to (Γ : gC X p m meth c cc nL s args own rt) (hI : gI X σ s H locs) {index : Nat} (hlink : Cond.fieldLink own index "RingCuttersModel" "to" "I" ∈ GW) (hdg : decode cc pc = .ok (.getfield index, 3)) (kk : W p l e R s m args below meth c H locs cells slots Q (F0 m (pc + 3) ls (.int (σ.1 60 4) :: rest))) : W p l e R s m args below meth c H locs cells slots Q (F0 m pc ls (.ref (X.2.1 + 60) :: rest)) :=
  g_get Γ hI 60 (sh_lt' (show sh 60 = (10, 0) from by decide +kernel) (by decide)) (gcell_X12 (show sh 60 = (10, 0) from by decide +kernel)) (C := RX12) (T := TX12) (N := 30) rfl inlX12 4 (by decide) hlink rfl hdg kk
theorem put_X12_to (Γ : gC X p m meth c cc nL s args own rt) (hI : gI X σ s H locs) {v : Int32} {index : Nat} (hlink : Cond.fieldLink own index "RingCuttersModel" "to" "I" ∈ GW) (hdg : decode cc pc = .ok (.putfield index, 3)) (kk : ∀ (H1 : Heap) (locs1 : List Loc), gI X (wI σ 60 4 v) s H1 locs1 → W p l e R s m args below meth c H1 locs1 cells slots Q (F0 m (pc + 3) ls rest)) : W p l e R s m args below meth c H locs cells slots Q (F0 m pc ls (.int v :: .ref (X.2.1 + 60) :: rest)) :=
  g_put Γ hI (wI σ 60 4 v) 60 (sh_lt' (show sh 60 = (10, 0) from by decide +kernel) (by decide)) (gcell_X12 (show sh 60 = (10, 0) from by decide +kernel)) (C := RX12) (T := TX12) (N := 30) tyX12 tyX12_ok nmX12 rfl inlX12 4 (by decide) hlink rfl (ty := .int) (by decide +kernel) rfl rfl (by simp [gfs]) (by rw [gcell_X12 (show sh 60 = (10, 0) from by decide +kernel)]; simp [gfs, wI]) wI_other hdg kk
theorem get_X12_from (Γ : gC X p m meth c cc nL s args own rt) (hI : gI X σ s H locs) {index : Nat} (hlink : Cond.fieldLink own index "RingCuttersModel" "from" "I" ∈ GW) (hdg : decode cc pc = .ok (.getfield index, 3)) (kk : W p l e R s m args below meth c H locs cells slots Q (F0 m (pc + 3) ls (.int (σ.1 60 5) :: rest))) : W p l e R s m args below meth c H locs cells slots Q (F0 m pc ls (.ref (X.2.1 + 60) :: rest)) :=
  g_get Γ hI 60 (sh_lt' (show sh 60 = (10, 0) from by decide +kernel) (by decide)) (gcell_X12 (show sh 60 = (10, 0) from by decide +kernel)) (C := RX12) (T := TX12) (N := 30) rfl inlX12 5 (by decide) hlink rfl hdg kk
theorem put_X12_from (Γ : gC X p m meth c cc nL s args own rt) (hI : gI X σ s H locs) {v : Int32} {index : Nat} (hlink : Cond.fieldLink own index "RingCuttersModel" "from" "I" ∈ GW) (hdg : decode cc pc = .ok (.putfield index, 3)) (kk : ∀ (H1 : Heap) (locs1 : List Loc), gI X (wI σ 60 5 v) s H1 locs1 → W p l e R s m args below meth c H1 locs1 cells slots Q (F0 m (pc + 3) ls rest)) : W p l e R s m args below meth c H locs cells slots Q (F0 m pc ls (.int v :: .ref (X.2.1 + 60) :: rest)) :=
  g_put Γ hI (wI σ 60 5 v) 60 (sh_lt' (show sh 60 = (10, 0) from by decide +kernel) (by decide)) (gcell_X12 (show sh 60 = (10, 0) from by decide +kernel)) (C := RX12) (T := TX12) (N := 30) tyX12 tyX12_ok nmX12 rfl inlX12 5 (by decide) hlink rfl (ty := .int) (by decide +kernel) rfl rfl (by simp [gfs]) (by rw [gcell_X12 (show sh 60 = (10, 0) from by decide +kernel)]; simp [gfs, wI]) wI_other hdg kk
theorem get_X12_kind (Γ : gC X p m meth c cc nL s args own rt) (hI : gI X σ s H locs) {index : Nat} (hlink : Cond.fieldLink own index "RingCuttersModel" "kind" "I" ∈ GW) (hdg : decode cc pc = .ok (.getfield index, 3)) (kk : W p l e R s m args below meth c H locs cells slots Q (F0 m (pc + 3) ls (.int (σ.1 60 6) :: rest))) : W p l e R s m args below meth c H locs cells slots Q (F0 m pc ls (.ref (X.2.1 + 60) :: rest)) :=
  g_get Γ hI 60 (sh_lt' (show sh 60 = (10, 0) from by decide +kernel) (by decide)) (gcell_X12 (show sh 60 = (10, 0) from by decide +kernel)) (C := RX12) (T := TX12) (N := 30) rfl inlX12 6 (by decide) hlink rfl hdg kk
theorem put_X12_kind (Γ : gC X p m meth c cc nL s args own rt) (hI : gI X σ s H locs) {v : Int32} {index : Nat} (hlink : Cond.fieldLink own index "RingCuttersModel" "kind" "I" ∈ GW) (hdg : decode cc pc = .ok (.putfield index, 3)) (kk : ∀ (H1 : Heap) (locs1 : List Loc), gI X (wI σ 60 6 v) s H1 locs1 → W p l e R s m args below meth c H1 locs1 cells slots Q (F0 m (pc + 3) ls rest)) : W p l e R s m args below meth c H locs cells slots Q (F0 m pc ls (.int v :: .ref (X.2.1 + 60) :: rest)) :=
  g_put Γ hI (wI σ 60 6 v) 60 (sh_lt' (show sh 60 = (10, 0) from by decide +kernel) (by decide)) (gcell_X12 (show sh 60 = (10, 0) from by decide +kernel)) (C := RX12) (T := TX12) (N := 30) tyX12 tyX12_ok nmX12 rfl inlX12 6 (by decide) hlink rfl (ty := .int) (by decide +kernel) rfl rfl (by simp [gfs]) (by rw [gcell_X12 (show sh 60 = (10, 0) from by decide +kernel)]; simp [gfs, wI]) wI_other hdg kk
theorem get_X12_number (Γ : gC X p m meth c cc nL s args own rt) (hI : gI X σ s H locs) {index : Nat} (hlink : Cond.fieldLink own index "RingCuttersModel" "number" "I" ∈ GW) (hdg : decode cc pc = .ok (.getfield index, 3)) (kk : W p l e R s m args below meth c H locs cells slots Q (F0 m (pc + 3) ls (.int (σ.1 60 7) :: rest))) : W p l e R s m args below meth c H locs cells slots Q (F0 m pc ls (.ref (X.2.1 + 60) :: rest)) :=
  g_get Γ hI 60 (sh_lt' (show sh 60 = (10, 0) from by decide +kernel) (by decide)) (gcell_X12 (show sh 60 = (10, 0) from by decide +kernel)) (C := RX12) (T := TX12) (N := 30) rfl inlX12 7 (by decide) hlink rfl hdg kk
theorem put_X12_number (Γ : gC X p m meth c cc nL s args own rt) (hI : gI X σ s H locs) {v : Int32} {index : Nat} (hlink : Cond.fieldLink own index "RingCuttersModel" "number" "I" ∈ GW) (hdg : decode cc pc = .ok (.putfield index, 3)) (kk : ∀ (H1 : Heap) (locs1 : List Loc), gI X (wI σ 60 7 v) s H1 locs1 → W p l e R s m args below meth c H1 locs1 cells slots Q (F0 m (pc + 3) ls rest)) : W p l e R s m args below meth c H locs cells slots Q (F0 m pc ls (.int v :: .ref (X.2.1 + 60) :: rest)) :=
  g_put Γ hI (wI σ 60 7 v) 60 (sh_lt' (show sh 60 = (10, 0) from by decide +kernel) (by decide)) (gcell_X12 (show sh 60 = (10, 0) from by decide +kernel)) (C := RX12) (T := TX12) (N := 30) tyX12 tyX12_ok nmX12 rfl inlX12 7 (by decide) hlink rfl (ty := .int) (by decide +kernel) rfl rfl (by simp [gfs]) (by rw [gcell_X12 (show sh 60 = (10, 0) from by decide +kernel)]; simp [gfs, wI]) wI_other hdg kk
theorem get_X12_fault (Γ : gC X p m meth c cc nL s args own rt) (hI : gI X σ s H locs) {index : Nat} (hlink : Cond.fieldLink own index "RingCuttersModel" "fault" "I" ∈ GW) (hdg : decode cc pc = .ok (.getfield index, 3)) (kk : W p l e R s m args below meth c H locs cells slots Q (F0 m (pc + 3) ls (.int (σ.1 60 8) :: rest))) : W p l e R s m args below meth c H locs cells slots Q (F0 m pc ls (.ref (X.2.1 + 60) :: rest)) :=
  g_get Γ hI 60 (sh_lt' (show sh 60 = (10, 0) from by decide +kernel) (by decide)) (gcell_X12 (show sh 60 = (10, 0) from by decide +kernel)) (C := RX12) (T := TX12) (N := 30) rfl inlX12 8 (by decide) hlink rfl hdg kk
theorem put_X12_fault (Γ : gC X p m meth c cc nL s args own rt) (hI : gI X σ s H locs) {v : Int32} {index : Nat} (hlink : Cond.fieldLink own index "RingCuttersModel" "fault" "I" ∈ GW) (hdg : decode cc pc = .ok (.putfield index, 3)) (kk : ∀ (H1 : Heap) (locs1 : List Loc), gI X (wI σ 60 8 v) s H1 locs1 → W p l e R s m args below meth c H1 locs1 cells slots Q (F0 m (pc + 3) ls rest)) : W p l e R s m args below meth c H locs cells slots Q (F0 m pc ls (.int v :: .ref (X.2.1 + 60) :: rest)) :=
  g_put Γ hI (wI σ 60 8 v) 60 (sh_lt' (show sh 60 = (10, 0) from by decide +kernel) (by decide)) (gcell_X12 (show sh 60 = (10, 0) from by decide +kernel)) (C := RX12) (T := TX12) (N := 30) tyX12 tyX12_ok nmX12 rfl inlX12 8 (by decide) hlink rfl (ty := .int) (by decide +kernel) rfl rfl (by simp [gfs]) (by rw [gcell_X12 (show sh 60 = (10, 0) from by decide +kernel)]; simp [gfs, wI]) wI_other hdg kk
theorem get_X12_place (Γ : gC X p m meth c cc nL s args own rt) (hI : gI X σ s H locs) {index : Nat} (hlink : Cond.fieldLink own index "RingCuttersModel" "place" "I" ∈ GW) (hdg : decode cc pc = .ok (.getfield index, 3)) (kk : W p l e R s m args below meth c H locs cells slots Q (F0 m (pc + 3) ls (.int (σ.1 60 9) :: rest))) : W p l e R s m args below meth c H locs cells slots Q (F0 m pc ls (.ref (X.2.1 + 60) :: rest)) :=
  g_get Γ hI 60 (sh_lt' (show sh 60 = (10, 0) from by decide +kernel) (by decide)) (gcell_X12 (show sh 60 = (10, 0) from by decide +kernel)) (C := RX12) (T := TX12) (N := 30) rfl inlX12 9 (by decide) hlink rfl hdg kk
theorem put_X12_place (Γ : gC X p m meth c cc nL s args own rt) (hI : gI X σ s H locs) {v : Int32} {index : Nat} (hlink : Cond.fieldLink own index "RingCuttersModel" "place" "I" ∈ GW) (hdg : decode cc pc = .ok (.putfield index, 3)) (kk : ∀ (H1 : Heap) (locs1 : List Loc), gI X (wI σ 60 9 v) s H1 locs1 → W p l e R s m args below meth c H1 locs1 cells slots Q (F0 m (pc + 3) ls rest)) : W p l e R s m args below meth c H locs cells slots Q (F0 m pc ls (.int v :: .ref (X.2.1 + 60) :: rest)) :=
  g_put Γ hI (wI σ 60 9 v) 60 (sh_lt' (show sh 60 = (10, 0) from by decide +kernel) (by decide)) (gcell_X12 (show sh 60 = (10, 0) from by decide +kernel)) (C := RX12) (T := TX12) (N := 30) tyX12 tyX12_ok nmX12 rfl inlX12 9 (by decide) hlink rfl (ty := .int) (by decide +kernel) rfl rfl (by simp [gfs]) (by rw [gcell_X12 (show sh 60 = (10, 0) from by decide +kernel)]; simp [gfs, wI]) wI_other hdg kk
theorem get_X12_word (Γ : gC X p m meth c cc nL s args own rt) (hI : gI X σ s H locs) {index : Nat} (hlink : Cond.fieldLink own index "RingCuttersModel" "word" "J" ∈ GW) (hdg : decode cc pc = .ok (.getfield index, 3)) (kk : W p l e R s m args below meth c H locs cells slots Q (F0 m (pc + 3) ls (.long (σ.2 60 10) :: rest))) : W p l e R s m args below meth c H locs cells slots Q (F0 m pc ls (.ref (X.2.1 + 60) :: rest)) :=
  g_get Γ hI 60 (sh_lt' (show sh 60 = (10, 0) from by decide +kernel) (by decide)) (gcell_X12 (show sh 60 = (10, 0) from by decide +kernel)) (C := RX12) (T := TX12) (N := 30) rfl inlX12 10 (by decide) hlink rfl hdg kk
theorem put_X12_word (Γ : gC X p m meth c cc nL s args own rt) (hI : gI X σ s H locs) {v : Int64} {index : Nat} (hlink : Cond.fieldLink own index "RingCuttersModel" "word" "J" ∈ GW) (hdg : decode cc pc = .ok (.putfield index, 3)) (kk : ∀ (H1 : Heap) (locs1 : List Loc), gI X (wL σ 60 10 v) s H1 locs1 → W p l e R s m args below meth c H1 locs1 cells slots Q (F0 m (pc + 3) ls rest)) : W p l e R s m args below meth c H locs cells slots Q (F0 m pc ls (.long v :: .ref (X.2.1 + 60) :: rest)) :=
  g_put Γ hI (wL σ 60 10 v) 60 (sh_lt' (show sh 60 = (10, 0) from by decide +kernel) (by decide)) (gcell_X12 (show sh 60 = (10, 0) from by decide +kernel)) (C := RX12) (T := TX12) (N := 30) tyX12 tyX12_ok nmX12 rfl inlX12 10 (by decide) hlink rfl (ty := .long) (by decide +kernel) rfl rfl (by simp [gfs]) (by rw [gcell_X12 (show sh 60 = (10, 0) from by decide +kernel)]; simp [gfs, wL]) wL_other hdg kk
theorem get_X12_now (Γ : gC X p m meth c cc nL s args own rt) (hI : gI X σ s H locs) {index : Nat} (hlink : Cond.fieldLink own index "RingCuttersModel" "now" "[I" ∈ GW) (hdg : decode cc pc = .ok (.getfield index, 3)) (kk : W p l e R s m args below meth c H locs cells slots Q (F0 m (pc + 3) ls (.ref (X.2.1 + 62) :: rest))) : W p l e R s m args below meth c H locs cells slots Q (F0 m pc ls (.ref (X.2.1 + 60) :: rest)) :=
  g_get Γ hI 60 (sh_lt' (show sh 60 = (10, 0) from by decide +kernel) (by decide)) (gcell_X12 (show sh 60 = (10, 0) from by decide +kernel)) (C := RX12) (T := TX12) (N := 30) rfl inlX12 11 (by decide) hlink rfl hdg kk
theorem get_X12_read (Γ : gC X p m meth c cc nL s args own rt) (hI : gI X σ s H locs) {index : Nat} (hlink : Cond.fieldLink own index "RingCuttersModel" "read" "[I" ∈ GW) (hdg : decode cc pc = .ok (.getfield index, 3)) (kk : W p l e R s m args below meth c H locs cells slots Q (F0 m (pc + 3) ls (.ref (X.2.1 + 63) :: rest))) : W p l e R s m args below meth c H locs cells slots Q (F0 m pc ls (.ref (X.2.1 + 60) :: rest)) :=
  g_get Γ hI 60 (sh_lt' (show sh 60 = (10, 0) from by decide +kernel) (by decide)) (gcell_X12 (show sh 60 = (10, 0) from by decide +kernel)) (C := RX12) (T := TX12) (N := 30) rfl inlX12 12 (by decide) hlink rfl hdg kk
theorem get_X12_kept (Γ : gC X p m meth c cc nL s args own rt) (hI : gI X σ s H locs) {index : Nat} (hlink : Cond.fieldLink own index "RingCuttersModel" "kept" "[I" ∈ GW) (hdg : decode cc pc = .ok (.getfield index, 3)) (kk : W p l e R s m args below meth c H locs cells slots Q (F0 m (pc + 3) ls (.ref (X.2.1 + 64) :: rest))) : W p l e R s m args below meth c H locs cells slots Q (F0 m pc ls (.ref (X.2.1 + 60) :: rest)) :=
  g_get Γ hI 60 (sh_lt' (show sh 60 = (10, 0) from by decide +kernel) (by decide)) (gcell_X12 (show sh 60 = (10, 0) from by decide +kernel)) (C := RX12) (T := TX12) (N := 30) rfl inlX12 13 (by decide) hlink rfl hdg kk
theorem get_X12_snaps (Γ : gC X p m meth c cc nL s args own rt) (hI : gI X σ s H locs) {index : Nat} (hlink : Cond.fieldLink own index "RingCuttersModel" "snaps" "[I" ∈ GW) (hdg : decode cc pc = .ok (.getfield index, 3)) (kk : W p l e R s m args below meth c H locs cells slots Q (F0 m (pc + 3) ls (.ref (X.2.1 + 65) :: rest))) : W p l e R s m args below meth c H locs cells slots Q (F0 m pc ls (.ref (X.2.1 + 60) :: rest)) :=
  g_get Γ hI 60 (sh_lt' (show sh 60 = (10, 0) from by decide +kernel) (by decide)) (gcell_X12 (show sh 60 = (10, 0) from by decide +kernel)) (C := RX12) (T := TX12) (N := 30) rfl inlX12 14 (by decide) hlink rfl hdg kk
theorem get_X12_before (Γ : gC X p m meth c cc nL s args own rt) (hI : gI X σ s H locs) {index : Nat} (hlink : Cond.fieldLink own index "RingCuttersModel" "before" "[I" ∈ GW) (hdg : decode cc pc = .ok (.getfield index, 3)) (kk : W p l e R s m args below meth c H locs cells slots Q (F0 m (pc + 3) ls (.ref (X.2.1 + 66) :: rest))) : W p l e R s m args below meth c H locs cells slots Q (F0 m pc ls (.ref (X.2.1 + 60) :: rest)) :=
  g_get Γ hI 60 (sh_lt' (show sh 60 = (10, 0) from by decide +kernel) (by decide)) (gcell_X12 (show sh 60 = (10, 0) from by decide +kernel)) (C := RX12) (T := TX12) (N := 30) rfl inlX12 15 (by decide) hlink rfl hdg kk
theorem get_X12_live (Γ : gC X p m meth c cc nL s args own rt) (hI : gI X σ s H locs) {index : Nat} (hlink : Cond.fieldLink own index "RingCuttersModel" "live" "[I" ∈ GW) (hdg : decode cc pc = .ok (.getfield index, 3)) (kk : W p l e R s m args below meth c H locs cells slots Q (F0 m (pc + 3) ls (.ref (X.2.1 + 67) :: rest))) : W p l e R s m args below meth c H locs cells slots Q (F0 m pc ls (.ref (X.2.1 + 60) :: rest)) :=
  g_get Γ hI 60 (sh_lt' (show sh 60 = (10, 0) from by decide +kernel) (by decide)) (gcell_X12 (show sh 60 = (10, 0) from by decide +kernel)) (C := RX12) (T := TX12) (N := 30) rfl inlX12 16 (by decide) hlink rfl hdg kk
theorem get_X12_names (Γ : gC X p m meth c cc nL s args own rt) (hI : gI X σ s H locs) {index : Nat} (hlink : Cond.fieldLink own index "RingCuttersModel" "names" "[J" ∈ GW) (hdg : decode cc pc = .ok (.getfield index, 3)) (kk : W p l e R s m args below meth c H locs cells slots Q (F0 m (pc + 3) ls (.ref (X.2.1 + 68) :: rest))) : W p l e R s m args below meth c H locs cells slots Q (F0 m pc ls (.ref (X.2.1 + 60) :: rest)) :=
  g_get Γ hI 60 (sh_lt' (show sh 60 = (10, 0) from by decide +kernel) (by decide)) (gcell_X12 (show sh 60 = (10, 0) from by decide +kernel)) (C := RX12) (T := TX12) (N := 30) rfl inlX12 17 (by decide) hlink rfl hdg kk
theorem get_X12_isKept (Γ : gC X p m meth c cc nL s args own rt) (hI : gI X σ s H locs) {index : Nat} (hlink : Cond.fieldLink own index "RingCuttersModel" "isKept" "[Z" ∈ GW) (hdg : decode cc pc = .ok (.getfield index, 3)) (kk : W p l e R s m args below meth c H locs cells slots Q (F0 m (pc + 3) ls (.ref (X.2.1 + 69) :: rest))) : W p l e R s m args below meth c H locs cells slots Q (F0 m pc ls (.ref (X.2.1 + 60) :: rest)) :=
  g_get Γ hI 60 (sh_lt' (show sh 60 = (10, 0) from by decide +kernel) (by decide)) (gcell_X12 (show sh 60 = (10, 0) from by decide +kernel)) (C := RX12) (T := TX12) (N := 30) rfl inlX12 18 (by decide) hlink rfl hdg kk
theorem get_X12_snapMany (Γ : gC X p m meth c cc nL s args own rt) (hI : gI X σ s H locs) {index : Nat} (hlink : Cond.fieldLink own index "RingCuttersModel" "snapMany" "I" ∈ GW) (hdg : decode cc pc = .ok (.getfield index, 3)) (kk : W p l e R s m args below meth c H locs cells slots Q (F0 m (pc + 3) ls (.int (σ.1 60 19) :: rest))) : W p l e R s m args below meth c H locs cells slots Q (F0 m pc ls (.ref (X.2.1 + 60) :: rest)) :=
  g_get Γ hI 60 (sh_lt' (show sh 60 = (10, 0) from by decide +kernel) (by decide)) (gcell_X12 (show sh 60 = (10, 0) from by decide +kernel)) (C := RX12) (T := TX12) (N := 30) rfl inlX12 19 (by decide) hlink rfl hdg kk
theorem put_X12_snapMany (Γ : gC X p m meth c cc nL s args own rt) (hI : gI X σ s H locs) {v : Int32} {index : Nat} (hlink : Cond.fieldLink own index "RingCuttersModel" "snapMany" "I" ∈ GW) (hdg : decode cc pc = .ok (.putfield index, 3)) (kk : ∀ (H1 : Heap) (locs1 : List Loc), gI X (wI σ 60 19 v) s H1 locs1 → W p l e R s m args below meth c H1 locs1 cells slots Q (F0 m (pc + 3) ls rest)) : W p l e R s m args below meth c H locs cells slots Q (F0 m pc ls (.int v :: .ref (X.2.1 + 60) :: rest)) :=
  g_put Γ hI (wI σ 60 19 v) 60 (sh_lt' (show sh 60 = (10, 0) from by decide +kernel) (by decide)) (gcell_X12 (show sh 60 = (10, 0) from by decide +kernel)) (C := RX12) (T := TX12) (N := 30) tyX12 tyX12_ok nmX12 rfl inlX12 19 (by decide) hlink rfl (ty := .int) (by decide +kernel) rfl rfl (by simp [gfs]) (by rw [gcell_X12 (show sh 60 = (10, 0) from by decide +kernel)]; simp [gfs, wI]) wI_other hdg kk
theorem get_X12_isRing (Γ : gC X p m meth c cc nL s args own rt) (hI : gI X σ s H locs) {index : Nat} (hlink : Cond.fieldLink own index "RingCuttersModel" "isRing" "[Z" ∈ GW) (hdg : decode cc pc = .ok (.getfield index, 3)) (kk : W p l e R s m args below meth c H locs cells slots Q (F0 m (pc + 3) ls (.ref (X.2.1 + 70) :: rest))) : W p l e R s m args below meth c H locs cells slots Q (F0 m pc ls (.ref (X.2.1 + 60) :: rest)) :=
  g_get Γ hI 60 (sh_lt' (show sh 60 = (10, 0) from by decide +kernel) (by decide)) (gcell_X12 (show sh 60 = (10, 0) from by decide +kernel)) (C := RX12) (T := TX12) (N := 30) rfl inlX12 20 (by decide) hlink rfl hdg kk
theorem get_X12_ringMany (Γ : gC X p m meth c cc nL s args own rt) (hI : gI X σ s H locs) {index : Nat} (hlink : Cond.fieldLink own index "RingCuttersModel" "ringMany" "J" ∈ GW) (hdg : decode cc pc = .ok (.getfield index, 3)) (kk : W p l e R s m args below meth c H locs cells slots Q (F0 m (pc + 3) ls (.long (σ.2 60 21) :: rest))) : W p l e R s m args below meth c H locs cells slots Q (F0 m pc ls (.ref (X.2.1 + 60) :: rest)) :=
  g_get Γ hI 60 (sh_lt' (show sh 60 = (10, 0) from by decide +kernel) (by decide)) (gcell_X12 (show sh 60 = (10, 0) from by decide +kernel)) (C := RX12) (T := TX12) (N := 30) rfl inlX12 21 (by decide) hlink rfl hdg kk
theorem put_X12_ringMany (Γ : gC X p m meth c cc nL s args own rt) (hI : gI X σ s H locs) {v : Int64} {index : Nat} (hlink : Cond.fieldLink own index "RingCuttersModel" "ringMany" "J" ∈ GW) (hdg : decode cc pc = .ok (.putfield index, 3)) (kk : ∀ (H1 : Heap) (locs1 : List Loc), gI X (wL σ 60 21 v) s H1 locs1 → W p l e R s m args below meth c H1 locs1 cells slots Q (F0 m (pc + 3) ls rest)) : W p l e R s m args below meth c H locs cells slots Q (F0 m pc ls (.long v :: .ref (X.2.1 + 60) :: rest)) :=
  g_put Γ hI (wL σ 60 21 v) 60 (sh_lt' (show sh 60 = (10, 0) from by decide +kernel) (by decide)) (gcell_X12 (show sh 60 = (10, 0) from by decide +kernel)) (C := RX12) (T := TX12) (N := 30) tyX12 tyX12_ok nmX12 rfl inlX12 21 (by decide) hlink rfl (ty := .long) (by decide +kernel) rfl rfl (by simp [gfs]) (by rw [gcell_X12 (show sh 60 = (10, 0) from by decide +kernel)]; simp [gfs, wL]) wL_other hdg kk
theorem get_X12_apart (Γ : gC X p m meth c cc nL s args own rt) (hI : gI X σ s H locs) {index : Nat} (hlink : Cond.fieldLink own index "RingCuttersModel" "apart" "[I" ∈ GW) (hdg : decode cc pc = .ok (.getfield index, 3)) (kk : W p l e R s m args below meth c H locs cells slots Q (F0 m (pc + 3) ls (.ref (X.2.1 + 71) :: rest))) : W p l e R s m args below meth c H locs cells slots Q (F0 m pc ls (.ref (X.2.1 + 60) :: rest)) :=
  g_get Γ hI 60 (sh_lt' (show sh 60 = (10, 0) from by decide +kernel) (by decide)) (gcell_X12 (show sh 60 = (10, 0) from by decide +kernel)) (C := RX12) (T := TX12) (N := 30) rfl inlX12 22 (by decide) hlink rfl hdg kk
theorem get_X12_above (Γ : gC X p m meth c cc nL s args own rt) (hI : gI X σ s H locs) {index : Nat} (hlink : Cond.fieldLink own index "RingCuttersModel" "above" "[J" ∈ GW) (hdg : decode cc pc = .ok (.getfield index, 3)) (kk : W p l e R s m args below meth c H locs cells slots Q (F0 m (pc + 3) ls (.ref (X.2.1 + 72) :: rest))) : W p l e R s m args below meth c H locs cells slots Q (F0 m pc ls (.ref (X.2.1 + 60) :: rest)) :=
  g_get Γ hI 60 (sh_lt' (show sh 60 = (10, 0) from by decide +kernel) (by decide)) (gcell_X12 (show sh 60 = (10, 0) from by decide +kernel)) (C := RX12) (T := TX12) (N := 30) rfl inlX12 23 (by decide) hlink rfl hdg kk
theorem get_X12_below (Γ : gC X p m meth c cc nL s args own rt) (hI : gI X σ s H locs) {index : Nat} (hlink : Cond.fieldLink own index "RingCuttersModel" "below" "[J" ∈ GW) (hdg : decode cc pc = .ok (.getfield index, 3)) (kk : W p l e R s m args below meth c H locs cells slots Q (F0 m (pc + 3) ls (.ref (X.2.1 + 73) :: rest))) : W p l e R s m args below meth c H locs cells slots Q (F0 m pc ls (.ref (X.2.1 + 60) :: rest)) :=
  g_get Γ hI 60 (sh_lt' (show sh 60 = (10, 0) from by decide +kernel) (by decide)) (gcell_X12 (show sh 60 = (10, 0) from by decide +kernel)) (C := RX12) (T := TX12) (N := 30) rfl inlX12 24 (by decide) hlink rfl hdg kk
theorem get_X12_pile (Γ : gC X p m meth c cc nL s args own rt) (hI : gI X σ s H locs) {index : Nat} (hlink : Cond.fieldLink own index "RingCuttersModel" "pile" "[I" ∈ GW) (hdg : decode cc pc = .ok (.getfield index, 3)) (kk : W p l e R s m args below meth c H locs cells slots Q (F0 m (pc + 3) ls (.ref (X.2.1 + 74) :: rest))) : W p l e R s m args below meth c H locs cells slots Q (F0 m pc ls (.ref (X.2.1 + 60) :: rest)) :=
  g_get Γ hI 60 (sh_lt' (show sh 60 = (10, 0) from by decide +kernel) (by decide)) (gcell_X12 (show sh 60 = (10, 0) from by decide +kernel)) (C := RX12) (T := TX12) (N := 30) rfl inlX12 25 (by decide) hlink rfl hdg kk
theorem get_X12_boundAbove (Γ : gC X p m meth c cc nL s args own rt) (hI : gI X σ s H locs) {index : Nat} (hlink : Cond.fieldLink own index "RingCuttersModel" "boundAbove" "J" ∈ GW) (hdg : decode cc pc = .ok (.getfield index, 3)) (kk : W p l e R s m args below meth c H locs cells slots Q (F0 m (pc + 3) ls (.long (σ.2 60 26) :: rest))) : W p l e R s m args below meth c H locs cells slots Q (F0 m pc ls (.ref (X.2.1 + 60) :: rest)) :=
  g_get Γ hI 60 (sh_lt' (show sh 60 = (10, 0) from by decide +kernel) (by decide)) (gcell_X12 (show sh 60 = (10, 0) from by decide +kernel)) (C := RX12) (T := TX12) (N := 30) rfl inlX12 26 (by decide) hlink rfl hdg kk
theorem put_X12_boundAbove (Γ : gC X p m meth c cc nL s args own rt) (hI : gI X σ s H locs) {v : Int64} {index : Nat} (hlink : Cond.fieldLink own index "RingCuttersModel" "boundAbove" "J" ∈ GW) (hdg : decode cc pc = .ok (.putfield index, 3)) (kk : ∀ (H1 : Heap) (locs1 : List Loc), gI X (wL σ 60 26 v) s H1 locs1 → W p l e R s m args below meth c H1 locs1 cells slots Q (F0 m (pc + 3) ls rest)) : W p l e R s m args below meth c H locs cells slots Q (F0 m pc ls (.long v :: .ref (X.2.1 + 60) :: rest)) :=
  g_put Γ hI (wL σ 60 26 v) 60 (sh_lt' (show sh 60 = (10, 0) from by decide +kernel) (by decide)) (gcell_X12 (show sh 60 = (10, 0) from by decide +kernel)) (C := RX12) (T := TX12) (N := 30) tyX12 tyX12_ok nmX12 rfl inlX12 26 (by decide) hlink rfl (ty := .long) (by decide +kernel) rfl rfl (by simp [gfs]) (by rw [gcell_X12 (show sh 60 = (10, 0) from by decide +kernel)]; simp [gfs, wL]) wL_other hdg kk
theorem get_X12_boundBelow (Γ : gC X p m meth c cc nL s args own rt) (hI : gI X σ s H locs) {index : Nat} (hlink : Cond.fieldLink own index "RingCuttersModel" "boundBelow" "J" ∈ GW) (hdg : decode cc pc = .ok (.getfield index, 3)) (kk : W p l e R s m args below meth c H locs cells slots Q (F0 m (pc + 3) ls (.long (σ.2 60 27) :: rest))) : W p l e R s m args below meth c H locs cells slots Q (F0 m pc ls (.ref (X.2.1 + 60) :: rest)) :=
  g_get Γ hI 60 (sh_lt' (show sh 60 = (10, 0) from by decide +kernel) (by decide)) (gcell_X12 (show sh 60 = (10, 0) from by decide +kernel)) (C := RX12) (T := TX12) (N := 30) rfl inlX12 27 (by decide) hlink rfl hdg kk
theorem put_X12_boundBelow (Γ : gC X p m meth c cc nL s args own rt) (hI : gI X σ s H locs) {v : Int64} {index : Nat} (hlink : Cond.fieldLink own index "RingCuttersModel" "boundBelow" "J" ∈ GW) (hdg : decode cc pc = .ok (.putfield index, 3)) (kk : ∀ (H1 : Heap) (locs1 : List Loc), gI X (wL σ 60 27 v) s H1 locs1 → W p l e R s m args below meth c H1 locs1 cells slots Q (F0 m (pc + 3) ls rest)) : W p l e R s m args below meth c H locs cells slots Q (F0 m pc ls (.long v :: .ref (X.2.1 + 60) :: rest)) :=
  g_put Γ hI (wL σ 60 27 v) 60 (sh_lt' (show sh 60 = (10, 0) from by decide +kernel) (by decide)) (gcell_X12 (show sh 60 = (10, 0) from by decide +kernel)) (C := RX12) (T := TX12) (N := 30) tyX12 tyX12_ok nmX12 rfl inlX12 27 (by decide) hlink rfl (ty := .long) (by decide +kernel) rfl rfl (by simp [gfs]) (by rw [gcell_X12 (show sh 60 = (10, 0) from by decide +kernel)]; simp [gfs, wL]) wL_other hdg kk
theorem get_X12_piled (Γ : gC X p m meth c cc nL s args own rt) (hI : gI X σ s H locs) {index : Nat} (hlink : Cond.fieldLink own index "RingCuttersModel" "piled" "I" ∈ GW) (hdg : decode cc pc = .ok (.getfield index, 3)) (kk : W p l e R s m args below meth c H locs cells slots Q (F0 m (pc + 3) ls (.int (σ.1 60 28) :: rest))) : W p l e R s m args below meth c H locs cells slots Q (F0 m pc ls (.ref (X.2.1 + 60) :: rest)) :=
  g_get Γ hI 60 (sh_lt' (show sh 60 = (10, 0) from by decide +kernel) (by decide)) (gcell_X12 (show sh 60 = (10, 0) from by decide +kernel)) (C := RX12) (T := TX12) (N := 30) rfl inlX12 28 (by decide) hlink rfl hdg kk
theorem put_X12_piled (Γ : gC X p m meth c cc nL s args own rt) (hI : gI X σ s H locs) {v : Int32} {index : Nat} (hlink : Cond.fieldLink own index "RingCuttersModel" "piled" "I" ∈ GW) (hdg : decode cc pc = .ok (.putfield index, 3)) (kk : ∀ (H1 : Heap) (locs1 : List Loc), gI X (wI σ 60 28 v) s H1 locs1 → W p l e R s m args below meth c H1 locs1 cells slots Q (F0 m (pc + 3) ls rest)) : W p l e R s m args below meth c H locs cells slots Q (F0 m pc ls (.int v :: .ref (X.2.1 + 60) :: rest)) :=
  g_put Γ hI (wI σ 60 28 v) 60 (sh_lt' (show sh 60 = (10, 0) from by decide +kernel) (by decide)) (gcell_X12 (show sh 60 = (10, 0) from by decide +kernel)) (C := RX12) (T := TX12) (N := 30) tyX12 tyX12_ok nmX12 rfl inlX12 28 (by decide) hlink rfl (ty := .int) (by decide +kernel) rfl rfl (by simp [gfs]) (by rw [gcell_X12 (show sh 60 = (10, 0) from by decide +kernel)]; simp [gfs, wI]) wI_other hdg kk
theorem get_X12_seed (Γ : gC X p m meth c cc nL s args own rt) (hI : gI X σ s H locs) {index : Nat} (hlink : Cond.fieldLink own index "RingCuttersModel" "seed" "I" ∈ GW) (hdg : decode cc pc = .ok (.getfield index, 3)) (kk : W p l e R s m args below meth c H locs cells slots Q (F0 m (pc + 3) ls (.int (σ.1 60 29) :: rest))) : W p l e R s m args below meth c H locs cells slots Q (F0 m pc ls (.ref (X.2.1 + 60) :: rest)) :=
  g_get Γ hI 60 (sh_lt' (show sh 60 = (10, 0) from by decide +kernel) (by decide)) (gcell_X12 (show sh 60 = (10, 0) from by decide +kernel)) (C := RX12) (T := TX12) (N := 30) rfl inlX12 29 (by decide) hlink rfl hdg kk
theorem put_X12_seed (Γ : gC X p m meth c cc nL s args own rt) (hI : gI X σ s H locs) {v : Int32} {index : Nat} (hlink : Cond.fieldLink own index "RingCuttersModel" "seed" "I" ∈ GW) (hdg : decode cc pc = .ok (.putfield index, 3)) (kk : ∀ (H1 : Heap) (locs1 : List Loc), gI X (wI σ 60 29 v) s H1 locs1 → W p l e R s m args below meth c H1 locs1 cells slots Q (F0 m (pc + 3) ls rest)) : W p l e R s m args below meth c H locs cells slots Q (F0 m pc ls (.int v :: .ref (X.2.1 + 60) :: rest)) :=
  g_put Γ hI (wI σ 60 29 v) 60 (sh_lt' (show sh 60 = (10, 0) from by decide +kernel) (by decide)) (gcell_X12 (show sh 60 = (10, 0) from by decide +kernel)) (C := RX12) (T := TX12) (N := 30) tyX12 tyX12_ok nmX12 rfl inlX12 29 (by decide) hlink rfl (ty := .int) (by decide +kernel) rfl rfl (by simp [gfs]) (by rw [gcell_X12 (show sh 60 = (10, 0) from by decide +kernel)]; simp [gfs, wI]) wI_other hdg kk
end GFIELDS
theorem mf_J6_bitCount_0f7a4 : mfS yJ6_bitCount_0f7a4 cJ6_bitCount_0f7a4 1 (some .int) 1 := ⟨⟨gw_302, gw_303, gw_304⟩, by decide +kernel, by decide +kernel, by decide +kernel⟩
theorem mf_X0_begin : mfV RX0 yX0_begin cX0_begin 3 none 1 := ⟨⟨gw_305, gw_306, gw_307, gw_308⟩, rfl, by decide +kernel, by decide +kernel, by decide +kernel⟩
theorem mf_X0_boundAbove : mfV RX0 yX0_boundAbove cX0_boundAbove 3 (some .long) 0 := ⟨⟨gw_309, gw_310, gw_311, gw_308⟩, rfl, by decide +kernel, by decide +kernel, by decide +kernel⟩
theorem mf_X0_boundBelow : mfV RX0 yX0_boundBelow cX0_boundBelow 3 (some .long) 0 := ⟨⟨gw_312, gw_313, gw_314, gw_308⟩, rfl, by decide +kernel, by decide +kernel, by decide +kernel⟩
theorem mf_X0_commonDivisor : mfV RX0 yX0_commonDivisor cX0_commonDivisor 8 (some .long) 0 := ⟨⟨gw_315, gw_316, gw_317, gw_308⟩, rfl, by decide +kernel, by decide +kernel, by decide +kernel⟩
theorem mf_X0_giveBack : mfV RX0 yX0_giveBack cX0_giveBack 5 none 2 := ⟨⟨gw_318, gw_319, gw_320, gw_308⟩, rfl, by decide +kernel, by decide +kernel, by decide +kernel⟩
theorem mf_X0_leastOpenRing : mfV RX0 yX0_leastOpenRing cX0_leastOpenRing 8 (some .int) 2 := ⟨⟨gw_321, gw_322, gw_323, gw_308⟩, rfl, by decide +kernel, by decide +kernel, by decide +kernel⟩
theorem mf_X0_pileWeightless : mfV RX0 yX0_pileWeightless cX0_pileWeightless 2 none 0 := ⟨⟨gw_324, gw_325, gw_326, gw_308⟩, rfl, by decide +kernel, by decide +kernel, by decide +kernel⟩
theorem mf_X0_run : mfV RX0 yX0_run cX0_run 5 none 2 := ⟨⟨gw_327, gw_328, gw_329, gw_308⟩, rfl, by decide +kernel, by decide +kernel, by decide +kernel⟩
theorem mf_X0_strip : mfV RX0 yX0_strip cX0_strip 5 none 1 := ⟨⟨gw_330, gw_331, gw_332, gw_308⟩, rfl, by decide +kernel, by decide +kernel, by decide +kernel⟩
theorem mf_X0_takeFromAll : mfV RX0 yX0_takeFromAll cX0_takeFromAll 7 none 1 := ⟨⟨gw_333, gw_334, gw_335, gw_308⟩, rfl, by decide +kernel, by decide +kernel, by decide +kernel⟩
theorem mf_X0_takeFromRing : mfV RX0 yX0_takeFromRing cX0_takeFromRing 5 none 1 := ⟨⟨gw_336, gw_337, gw_338, gw_308⟩, rfl, by decide +kernel, by decide +kernel, by decide +kernel⟩
theorem mf_X10_append : mfV RX10 yX10_append cX10_append 3 none 1 := ⟨⟨gw_339, gw_340, gw_341, gw_342⟩, rfl, by decide +kernel, by decide +kernel, by decide +kernel⟩
theorem mf_X10_byteAt : mfV RX10 yX10_byteAt cX10_byteAt 2 (some .int) 1 := ⟨⟨gw_343, gw_344, gw_345, gw_342⟩, rfl, by decide +kernel, by decide +kernel, by decide +kernel⟩
theorem mf_X10_hasRoom : mfV RX10 yX10_hasRoom cX10_hasRoom 1 (some .boolean) 0 := ⟨⟨gw_346, gw_347, gw_348, gw_342⟩, rfl, by decide +kernel, by decide +kernel, by decide +kernel⟩
theorem mf_X11_cuts : mfV RX11 yX11_cuts cX11_cuts 2 (some .int) 1 := ⟨⟨gw_349, gw_350, gw_351, gw_352⟩, rfl, by decide +kernel, by decide +kernel, by decide +kernel⟩
theorem mf_X11_discountNow : mfV RX11 yX11_discountNow cX11_discountNow 1 (some (.object "RingCutters$Discount")) 0 := ⟨⟨gw_353, gw_354, gw_355, gw_352⟩, rfl, by decide +kernel, by decide +kernel, by decide +kernel⟩
theorem mf_X11_doDeed : mfV RX11 yX11_doDeed cX11_doDeed 4 (some .boolean) 0 := ⟨⟨gw_356, gw_357, gw_358, gw_352⟩, rfl, by decide +kernel, by decide +kernel, by decide +kernel⟩
theorem mf_X11_drawn : mfV RX11 yX11_drawn cX11_drawn 5 (some .int) 2 := ⟨⟨gw_359, gw_360, gw_361, gw_352⟩, rfl, by decide +kernel, by decide +kernel, by decide +kernel⟩
theorem mf_X11_drop : mfV RX11 yX11_drop cX11_drop 2 (some .int) 1 := ⟨⟨gw_362, gw_363, gw_364, gw_352⟩, rfl, by decide +kernel, by decide +kernel, by decide +kernel⟩
theorem mf_X11_end : mfV RX11 yX11_end cX11_end 2 (some .boolean) 1 := ⟨⟨gw_365, gw_366, gw_367, gw_352⟩, rfl, by decide +kernel, by decide +kernel, by decide +kernel⟩
theorem mf_X11_fault : mfV RX11 yX11_fault cX11_fault 1 (some .int) 0 := ⟨⟨gw_368, gw_369, gw_370, gw_352⟩, rfl, by decide +kernel, by decide +kernel, by decide +kernel⟩
theorem mf_X11_feed : mfV RX11 yX11_feed cX11_feed 6 (some .int) 5 := ⟨⟨gw_371, gw_372, gw_373, gw_352⟩, rfl, by decide +kernel, by decide +kernel, by decide +kernel⟩
theorem mf_X11_fewest : mfV RX11 yX11_fewest cX11_fewest 2 (some .int) 1 := ⟨⟨gw_374, gw_375, gw_376, gw_352⟩, rfl, by decide +kernel, by decide +kernel, by decide +kernel⟩
theorem mf_X11_image : mfV RX11 yX11_image cX11_image 3 (some .boolean) 1 := ⟨⟨gw_377, gw_378, gw_379, gw_352⟩, rfl, by decide +kernel, by decide +kernel, by decide +kernel⟩
theorem mf_X11_join : mfV RX11 yX11_join cX11_join 3 (some .int) 2 := ⟨⟨gw_380, gw_381, gw_382, gw_352⟩, rfl, by decide +kernel, by decide +kernel, by decide +kernel⟩
theorem mf_X11_keepAct : mfV RX11 yX11_keepAct cX11_keepAct 1 none 0 := ⟨⟨gw_383, gw_384, gw_385, gw_352⟩, rfl, by decide +kernel, by decide +kernel, by decide +kernel⟩
theorem mf_X11_keptAt : mfV RX11 yX11_keptAt cX11_keptAt 2 (some (.object "RingCutters$Kept")) 1 := ⟨⟨gw_386, gw_387, gw_388, gw_352⟩, rfl, by decide +kernel, by decide +kernel, by decide +kernel⟩
theorem mf_X11_lightest : mfV RX11 yX11_lightest cX11_lightest 2 (some .int) 1 := ⟨⟨gw_389, gw_390, gw_391, gw_352⟩, rfl, by decide +kernel, by decide +kernel, by decide +kernel⟩
theorem mf_X11_lightestCut : mfV RX11 yX11_lightestCut cX11_lightestCut 6 (some .int) 0 := ⟨⟨gw_392, gw_393, gw_394, gw_352⟩, rfl, by decide +kernel, by decide +kernel, by decide +kernel⟩
theorem mf_X11_lines : mfV RX11 yX11_lines cX11_lines 3 (some .int) 2 := ⟨⟨gw_395, gw_396, gw_397, gw_352⟩, rfl, by decide +kernel, by decide +kernel, by decide +kernel⟩
theorem mf_X11_markChanged : mfV RX11 yX11_markChanged cX11_markChanged 1 none 0 := ⟨⟨gw_398, gw_399, gw_400, gw_352⟩, rfl, by decide +kernel, by decide +kernel, by decide +kernel⟩
theorem mf_X11_near : mfV RX11 yX11_near cX11_near 1 (some .int) 0 := ⟨⟨gw_401, gw_402, gw_403, gw_352⟩, rfl, by decide +kernel, by decide +kernel, by decide +kernel⟩
theorem mf_X11_net : mfV RX11 yX11_net cX11_net 1 (some .int) 0 := ⟨⟨gw_404, gw_405, gw_406, gw_352⟩, rfl, by decide +kernel, by decide +kernel, by decide +kernel⟩
theorem mf_X11_now : mfV RX11 yX11_now cX11_now 2 (some .int) 1 := ⟨⟨gw_407, gw_408, gw_409, gw_352⟩, rfl, by decide +kernel, by decide +kernel, by decide +kernel⟩
theorem mf_X11_pack : mfV RX11 yX11_pack cX11_pack 2 (some .int) 1 := ⟨⟨gw_410, gw_411, gw_412, gw_352⟩, rfl, by decide +kernel, by decide +kernel, by decide +kernel⟩
theorem mf_X11_packed : mfV RX11 yX11_packed cX11_packed 1 (some .int) 0 := ⟨⟨gw_413, gw_414, gw_415, gw_352⟩, rfl, by decide +kernel, by decide +kernel, by decide +kernel⟩
theorem mf_X11_packingNow : mfV RX11 yX11_packingNow cX11_packingNow 1 (some (.object "RingCutters$Packing")) 0 := ⟨⟨gw_416, gw_417, gw_418, gw_352⟩, rfl, by decide +kernel, by decide +kernel, by decide +kernel⟩
theorem mf_X11_part : mfV RX11 yX11_part cX11_part 3 (some .int) 2 := ⟨⟨gw_419, gw_420, gw_421, gw_352⟩, rfl, by decide +kernel, by decide +kernel, by decide +kernel⟩
theorem mf_X11_restore : mfV RX11 yX11_restore cX11_restore 3 (some .boolean) 1 := ⟨⟨gw_422, gw_423, gw_424, gw_352⟩, rfl, by decide +kernel, by decide +kernel, by decide +kernel⟩
theorem mf_X11_rings : mfV RX11 yX11_rings cX11_rings 1 (some .long) 0 := ⟨⟨gw_425, gw_426, gw_427, gw_352⟩, rfl, by decide +kernel, by decide +kernel, by decide +kernel⟩
theorem mf_X11_ringsNow : mfV RX11 yX11_ringsNow cX11_ringsNow 1 (some (.object "RingCutters$Rings")) 0 := ⟨⟨gw_428, gw_429, gw_430, gw_352⟩, rfl, by decide +kernel, by decide +kernel, by decide +kernel⟩
theorem mf_X11_shortest : mfV RX11 yX11_shortest cX11_shortest 1 (some .int) 0 := ⟨⟨gw_431, gw_432, gw_433, gw_352⟩, rfl, by decide +kernel, by decide +kernel, by decide +kernel⟩
theorem mf_X11_shrink : mfV RX11 yX11_shrink cX11_shrink 2 (some .int) 0 := ⟨⟨gw_434, gw_435, gw_436, gw_352⟩, rfl, by decide +kernel, by decide +kernel, by decide +kernel⟩
theorem mf_X11_shrinkAll : mfV RX11 yX11_shrinkAll cX11_shrinkAll 3 (some .int) 0 := ⟨⟨gw_437, gw_438, gw_439, gw_352⟩, rfl, by decide +kernel, by decide +kernel, by decide +kernel⟩
theorem mf_X11_sparing : mfV RX11 yX11_sparing cX11_sparing 2 (some .int) 1 := ⟨⟨gw_440, gw_441, gw_442, gw_352⟩, rfl, by decide +kernel, by decide +kernel, by decide +kernel⟩
theorem mf_X11_tellSet : mfV RX11 yX11_tellSet cX11_tellSet 3 (some .int) 2 := ⟨⟨gw_443, gw_444, gw_445, gw_352⟩, rfl, by decide +kernel, by decide +kernel, by decide +kernel⟩
theorem mf_X11_those : mfV RX11 yX11_those cX11_those 8 (some .int) 1 := ⟨⟨gw_446, gw_447, gw_448, gw_352⟩, rfl, by decide +kernel, by decide +kernel, by decide +kernel⟩
theorem mf_X11_undo : mfV RX11 yX11_undo cX11_undo 1 (some .int) 0 := ⟨⟨gw_449, gw_450, gw_451, gw_352⟩, rfl, by decide +kernel, by decide +kernel, by decide +kernel⟩
theorem mf_X11_upTo : mfV RX11 yX11_upTo cX11_upTo 3 (some .int) 1 := ⟨⟨gw_452, gw_453, gw_454, gw_352⟩, rfl, by decide +kernel, by decide +kernel, by decide +kernel⟩
theorem mf_X11_weigh : mfV RX11 yX11_weigh cX11_weigh 3 (some .int) 2 := ⟨⟨gw_455, gw_456, gw_457, gw_352⟩, rfl, by decide +kernel, by decide +kernel, by decide +kernel⟩
theorem mf_X12_adds : mfS yX12_adds cX12_adds 4 none 4 := ⟨⟨gw_458, gw_459, gw_460⟩, by decide +kernel, by decide +kernel, by decide +kernel⟩
theorem mf_X12_allEnds : mfS yX12_allEnds cX12_allEnds 2 (some .int) 2 := ⟨⟨gw_461, gw_462, gw_460⟩, by decide +kernel, by decide +kernel, by decide +kernel⟩
theorem mf_X12_areThere : mfV RX12 yX12_areThere cX12_areThere 2 (some .boolean) 1 := ⟨⟨gw_463, gw_464, gw_465, gw_460⟩, rfl, by decide +kernel, by decide +kernel, by decide +kernel⟩
theorem mf_X12_bad : mfV RX12 yX12_bad cX12_bad 2 (some .boolean) 1 := ⟨⟨gw_466, gw_467, gw_468, gw_460⟩, rfl, by decide +kernel, by decide +kernel, by decide +kernel⟩
theorem mf_X12_bestCut : mfV RX12 yX12_bestCut cX12_bestCut 8 (some .int) 3 := ⟨⟨gw_469, gw_470, gw_471, gw_460⟩, rfl, by decide +kernel, by decide +kernel, by decide +kernel⟩
theorem mf_X12_between : mfS yX12_between cX12_between 3 (some .int) 3 := ⟨⟨gw_472, gw_473, gw_460⟩, by decide +kernel, by decide +kernel, by decide +kernel⟩
theorem mf_X12_bits : mfS yX12_bits cX12_bits 3 (some .int) 1 := ⟨⟨gw_474, gw_475, gw_460⟩, by decide +kernel, by decide +kernel, by decide +kernel⟩
theorem mf_X12_bound : mfV RX12 yX12_bound cX12_bound 2 (some .long) 1 := ⟨⟨gw_476, gw_477, gw_478, gw_460⟩, rfl, by decide +kernel, by decide +kernel, by decide +kernel⟩
theorem mf_X12_bounds : mfV RX12 yX12_bounds cX12_bounds 12 none 3 := ⟨⟨gw_479, gw_480, gw_481, gw_460⟩, rfl, by decide +kernel, by decide +kernel, by decide +kernel⟩
theorem mf_X12_copy : mfS yX12_copy cX12_copy 5 none 4 := ⟨⟨gw_482, gw_483, gw_460⟩, by decide +kernel, by decide +kernel, by decide +kernel⟩
theorem mf_X12_cuts : mfV RX12 yX12_cuts cX12_cuts 2 (some .int) 1 := ⟨⟨gw_484, gw_485, gw_486, gw_460⟩, rfl, by decide +kernel, by decide +kernel, by decide +kernel⟩
theorem mf_X12_divisor : mfS yX12_divisor cX12_divisor 4 (some .long) 2 := ⟨⟨gw_487, gw_488, gw_460⟩, by decide +kernel, by decide +kernel, by decide +kernel⟩
theorem mf_X12_does : mfV RX12 yX12_does cX12_does 5 (some .boolean) 0 := ⟨⟨gw_489, gw_490, gw_491, gw_460⟩, rfl, by decide +kernel, by decide +kernel, by decide +kernel⟩
theorem mf_X12_draw : mfV RX12 yX12_draw cX12_draw 2 (some .int) 1 := ⟨⟨gw_492, gw_493, gw_494, gw_460⟩, rfl, by decide +kernel, by decide +kernel, by decide +kernel⟩
theorem mf_X12_drawn : mfV RX12 yX12_drawn cX12_drawn 5 (some .int) 2 := ⟨⟨gw_495, gw_496, gw_497, gw_460⟩, rfl, by decide +kernel, by decide +kernel, by decide +kernel⟩
theorem mf_X12_drop : mfV RX12 yX12_drop cX12_drop 2 (some .int) 1 := ⟨⟨gw_498, gw_499, gw_500, gw_460⟩, rfl, by decide +kernel, by decide +kernel, by decide +kernel⟩
theorem mf_X12_end : mfV RX12 yX12_end cX12_end 2 (some .boolean) 1 := ⟨⟨gw_501, gw_502, gw_503, gw_460⟩, rfl, by decide +kernel, by decide +kernel, by decide +kernel⟩
theorem mf_X12_ends : mfS yX12_ends cX12_ends 5 (some .int) 3 := ⟨⟨gw_504, gw_505, gw_460⟩, by decide +kernel, by decide +kernel, by decide +kernel⟩
theorem mf_X12_fault : mfV RX12 yX12_fault cX12_fault 1 (some .int) 0 := ⟨⟨gw_506, gw_507, gw_508, gw_460⟩, rfl, by decide +kernel, by decide +kernel, by decide +kernel⟩
theorem mf_X12_feed : mfV RX12 yX12_feed cX12_feed 6 (some .int) 5 := ⟨⟨gw_509, gw_510, gw_511, gw_460⟩, rfl, by decide +kernel, by decide +kernel, by decide +kernel⟩
theorem mf_X12_fewest : mfV RX12 yX12_fewest cX12_fewest 2 (some .int) 1 := ⟨⟨gw_512, gw_513, gw_514, gw_460⟩, rfl, by decide +kernel, by decide +kernel, by decide +kernel⟩
theorem mf_X12_first : mfV RX12 yX12_first cX12_first 3 (some .int) 1 := ⟨⟨gw_515, gw_516, gw_517, gw_460⟩, rfl, by decide +kernel, by decide +kernel, by decide +kernel⟩
theorem mf_X12_goes : mfV RX12 yX12_goes cX12_goes 8 none 4 := ⟨⟨gw_518, gw_519, gw_520, gw_460⟩, rfl, by decide +kernel, by decide +kernel, by decide +kernel⟩
theorem mf_X12_has : mfS yX12_has cX12_has 2 (some .boolean) 2 := ⟨⟨gw_521, gw_522, gw_460⟩, by decide +kernel, by decide +kernel, by decide +kernel⟩
theorem mf_X12_image : mfV RX12 yX12_image cX12_image 2 (some .boolean) 1 := ⟨⟨gw_523, gw_524, gw_525, gw_460⟩, rfl, by decide +kernel, by decide +kernel, by decide +kernel⟩
theorem mf_X12_isCut : mfV RX12 yX12_isCut cX12_isCut 3 (some .boolean) 2 := ⟨⟨gw_526, gw_527, gw_528, gw_460⟩, rfl, by decide +kernel, by decide +kernel, by decide +kernel⟩
theorem mf_X12_isDigit : mfS yX12_isDigit cX12_isDigit 1 (some .boolean) 1 := ⟨⟨gw_529, gw_530, gw_460⟩, by decide +kernel, by decide +kernel, by decide +kernel⟩
theorem mf_X12_isIn : mfS yX12_isIn cX12_isIn 3 (some .boolean) 3 := ⟨⟨gw_531, gw_532, gw_460⟩, by decide +kernel, by decide +kernel, by decide +kernel⟩
theorem mf_X12_isLetter : mfS yX12_isLetter cX12_isLetter 1 (some .boolean) 1 := ⟨⟨gw_533, gw_534, gw_460⟩, by decide +kernel, by decide +kernel, by decide +kernel⟩
theorem mf_X12_isLineWord : mfV RX12 yX12_isLineWord cX12_isLineWord 1 (some .boolean) 0 := ⟨⟨gw_535, gw_536, gw_537, gw_460⟩, rfl, by decide +kernel, by decide +kernel, by decide +kernel⟩
theorem mf_X12_isName : mfV RX12 yX12_isName cX12_isName 1 (some .boolean) 0 := ⟨⟨gw_538, gw_539, gw_540, gw_460⟩, rfl, by decide +kernel, by decide +kernel, by decide +kernel⟩
theorem mf_X12_isOpen : mfV RX12 yX12_isOpen cX12_isOpen 2 (some .boolean) 1 := ⟨⟨gw_541, gw_542, gw_543, gw_460⟩, rfl, by decide +kernel, by decide +kernel, by decide +kernel⟩
theorem mf_X12_isPointWord : mfV RX12 yX12_isPointWord cX12_isPointWord 1 (some .boolean) 0 := ⟨⟨gw_544, gw_545, gw_546, gw_460⟩, rfl, by decide +kernel, by decide +kernel, by decide +kernel⟩
theorem mf_X12_isThere : mfV RX12 yX12_isThere cX12_isThere 2 (some .boolean) 1 := ⟨⟨gw_547, gw_548, gw_549, gw_460⟩, rfl, by decide +kernel, by decide +kernel, by decide +kernel⟩
theorem mf_X12_join : mfV RX12 yX12_join cX12_join 3 (some .int) 2 := ⟨⟨gw_550, gw_551, gw_552, gw_460⟩, rfl, by decide +kernel, by decide +kernel, by decide +kernel⟩
theorem mf_X12_lay : mfV RX12 yX12_lay cX12_lay 3 none 1 := ⟨⟨gw_553, gw_554, gw_555, gw_460⟩, rfl, by decide +kernel, by decide +kernel, by decide +kernel⟩
theorem mf_X12_laysApart : mfV RX12 yX12_laysApart cX12_laysApart 5 none 0 := ⟨⟨gw_556, gw_557, gw_558, gw_460⟩, rfl, by decide +kernel, by decide +kernel, by decide +kernel⟩
theorem mf_X12_laysNear : mfV RX12 yX12_laysNear cX12_laysNear 4 (some .int) 0 := ⟨⟨gw_559, gw_560, gw_561, gw_460⟩, rfl, by decide +kernel, by decide +kernel, by decide +kernel⟩
theorem mf_X12_laysRings : mfV RX12 yX12_laysRings cX12_laysRings 4 none 0 := ⟨⟨gw_562, gw_563, gw_564, gw_460⟩, rfl, by decide +kernel, by decide +kernel, by decide +kernel⟩
theorem mf_X12_least : mfS yX12_least cX12_least 2 (some .int) 1 := ⟨⟨gw_565, gw_566, gw_460⟩, by decide +kernel, by decide +kernel, by decide +kernel⟩
theorem mf_X12_leaves : mfS yX12_leaves cX12_leaves 3 none 2 := ⟨⟨gw_567, gw_568, gw_460⟩, by decide +kernel, by decide +kernel, by decide +kernel⟩
theorem mf_X12_lightest : mfV RX12 yX12_lightest cX12_lightest 2 (some .int) 1 := ⟨⟨gw_569, gw_570, gw_571, gw_460⟩, rfl, by decide +kernel, by decide +kernel, by decide +kernel⟩
theorem mf_X12_lineMany : mfS yX12_lineMany cX12_lineMany 4 (some .int) 2 := ⟨⟨gw_572, gw_573, gw_460⟩, by decide +kernel, by decide +kernel, by decide +kernel⟩
theorem mf_X12_lines : mfV RX12 yX12_lines cX12_lines 3 (some .int) 2 := ⟨⟨gw_574, gw_575, gw_576, gw_460⟩, rfl, by decide +kernel, by decide +kernel, by decide +kernel⟩
theorem mf_X12_mayJoin : mfV RX12 yX12_mayJoin cX12_mayJoin 3 (some .boolean) 2 := ⟨⟨gw_577, gw_578, gw_579, gw_460⟩, rfl, by decide +kernel, by decide +kernel, by decide +kernel⟩
theorem mf_X12_mayStep : mfV RX12 yX12_mayStep cX12_mayStep 3 (some .boolean) 2 := ⟨⟨gw_580, gw_581, gw_582, gw_460⟩, rfl, by decide +kernel, by decide +kernel, by decide +kernel⟩
theorem mf_X12_named : mfV RX12 yX12_named cX12_named 2 (some .int) 0 := ⟨⟨gw_583, gw_584, gw_585, gw_460⟩, rfl, by decide +kernel, by decide +kernel, by decide +kernel⟩
theorem mf_X12_near : mfV RX12 yX12_near cX12_near 1 (some .int) 0 := ⟨⟨gw_586, gw_587, gw_588, gw_460⟩, rfl, by decide +kernel, by decide +kernel, by decide +kernel⟩
theorem mf_X12_net : mfV RX12 yX12_net cX12_net 3 (some .int) 0 := ⟨⟨gw_589, gw_590, gw_591, gw_460⟩, rfl, by decide +kernel, by decide +kernel, by decide +kernel⟩
theorem mf_X12_next : mfV RX12 yX12_next cX12_next 5 none 0 := ⟨⟨gw_592, gw_593, gw_594, gw_460⟩, rfl, by decide +kernel, by decide +kernel, by decide +kernel⟩
theorem mf_X12_now : mfV RX12 yX12_now cX12_now 2 (some .int) 1 := ⟨⟨gw_595, gw_596, gw_597, gw_460⟩, rfl, by decide +kernel, by decide +kernel, by decide +kernel⟩
theorem mf_X12_one : mfV RX12 yX12_one cX12_one 3 (some .int) 1 := ⟨⟨gw_598, gw_599, gw_600, gw_460⟩, rfl, by decide +kernel, by decide +kernel, by decide +kernel⟩
theorem mf_X12_other : mfV RX12 yX12_other cX12_other 3 (some .int) 1 := ⟨⟨gw_601, gw_602, gw_603, gw_460⟩, rfl, by decide +kernel, by decide +kernel, by decide +kernel⟩
theorem mf_X12_pack : mfV RX12 yX12_pack cX12_pack 5 (some .int) 1 := ⟨⟨gw_604, gw_605, gw_606, gw_460⟩, rfl, by decide +kernel, by decide +kernel, by decide +kernel⟩
theorem mf_X12_packed : mfV RX12 yX12_packed cX12_packed 1 (some .int) 0 := ⟨⟨gw_607, gw_608, gw_609, gw_460⟩, rfl, by decide +kernel, by decide +kernel, by decide +kernel⟩
theorem mf_X12_part : mfV RX12 yX12_part cX12_part 3 (some .int) 2 := ⟨⟨gw_610, gw_611, gw_612, gw_460⟩, rfl, by decide +kernel, by decide +kernel, by decide +kernel⟩
theorem mf_X12_partOf : mfV RX12 yX12_partOf cX12_partOf 7 (some .int) 2 := ⟨⟨gw_613, gw_614, gw_615, gw_460⟩, rfl, by decide +kernel, by decide +kernel, by decide +kernel⟩
theorem mf_X12_parts : mfV RX12 yX12_parts cX12_parts 4 (some .int) 1 := ⟨⟨gw_616, gw_617, gw_618, gw_460⟩, rfl, by decide +kernel, by decide +kernel, by decide +kernel⟩
theorem mf_X12_point : mfV RX12 yX12_point cX12_point 5 (some .int) 2 := ⟨⟨gw_619, gw_620, gw_621, gw_460⟩, rfl, by decide +kernel, by decide +kernel, by decide +kernel⟩
theorem mf_X12_readEnd : mfV RX12 yX12_readEnd cX12_readEnd 1 (some .boolean) 0 := ⟨⟨gw_622, gw_623, gw_624, gw_460⟩, rfl, by decide +kernel, by decide +kernel, by decide +kernel⟩
theorem mf_X12_readLine : mfV RX12 yX12_readLine cX12_readLine 3 (some .boolean) 0 := ⟨⟨gw_625, gw_626, gw_627, gw_460⟩, rfl, by decide +kernel, by decide +kernel, by decide +kernel⟩
theorem mf_X12_readPoint : mfV RX12 yX12_readPoint cX12_readPoint 2 (some .boolean) 0 := ⟨⟨gw_628, gw_629, gw_630, gw_460⟩, rfl, by decide +kernel, by decide +kernel, by decide +kernel⟩
theorem mf_X12_refuse : mfV RX12 yX12_refuse cX12_refuse 1 (some .int) 0 := ⟨⟨gw_631, gw_632, gw_633, gw_460⟩, rfl, by decide +kernel, by decide +kernel, by decide +kernel⟩
theorem mf_X12_restore : mfV RX12 yX12_restore cX12_restore 2 (some .boolean) 1 := ⟨⟨gw_634, gw_635, gw_636, gw_460⟩, rfl, by decide +kernel, by decide +kernel, by decide +kernel⟩
theorem mf_X12_rings : mfV RX12 yX12_rings cX12_rings 1 (some .long) 0 := ⟨⟨gw_637, gw_638, gw_639, gw_460⟩, rfl, by decide +kernel, by decide +kernel, by decide +kernel⟩
theorem mf_X12_shortest : mfV RX12 yX12_shortest cX12_shortest 3 (some .int) 0 := ⟨⟨gw_640, gw_641, gw_642, gw_460⟩, rfl, by decide +kernel, by decide +kernel, by decide +kernel⟩
theorem mf_X12_shrink : mfV RX12 yX12_shrink cX12_shrink 2 (some .int) 0 := ⟨⟨gw_643, gw_644, gw_645, gw_460⟩, rfl, by decide +kernel, by decide +kernel, by decide +kernel⟩
theorem mf_X12_shrinkAll : mfV RX12 yX12_shrinkAll cX12_shrinkAll 2 (some .int) 0 := ⟨⟨gw_646, gw_647, gw_648, gw_460⟩, rfl, by decide +kernel, by decide +kernel, by decide +kernel⟩
theorem mf_X12_sinks : mfV RX12 yX12_sinks cX12_sinks 11 none 1 := ⟨⟨gw_649, gw_650, gw_651, gw_460⟩, rfl, by decide +kernel, by decide +kernel, by decide +kernel⟩
theorem mf_X12_snap : mfV RX12 yX12_snap cX12_snap 2 none 0 := ⟨⟨gw_652, gw_653, gw_654, gw_460⟩, rfl, by decide +kernel, by decide +kernel, by decide +kernel⟩
theorem mf_X12_sparing : mfV RX12 yX12_sparing cX12_sparing 2 (some .int) 1 := ⟨⟨gw_655, gw_656, gw_657, gw_460⟩, rfl, by decide +kernel, by decide +kernel, by decide +kernel⟩
theorem mf_X12_spelt : mfS yX12_spelt cX12_spelt 7 (some .long) 5 := ⟨⟨gw_658, gw_659, gw_460⟩, by decide +kernel, by decide +kernel, by decide +kernel⟩
theorem mf_X12_stay : mfV RX12 yX12_stay cX12_stay 1 none 0 := ⟨⟨gw_660, gw_661, gw_662, gw_460⟩, rfl, by decide +kernel, by decide +kernel, by decide +kernel⟩
theorem mf_X12_steps : mfV RX12 yX12_steps cX12_steps 5 (some .int) 0 := ⟨⟨gw_663, gw_664, gw_665, gw_460⟩, rfl, by decide +kernel, by decide +kernel, by decide +kernel⟩
theorem mf_X12_takes : mfV RX12 yX12_takes cX12_takes 13 none 4 := ⟨⟨gw_666, gw_667, gw_668, gw_460⟩, rfl, by decide +kernel, by decide +kernel, by decide +kernel⟩
theorem mf_X12_tapeAt : mfV RX12 yX12_tapeAt cX12_tapeAt 2 (some .int) 1 := ⟨⟨gw_669, gw_670, gw_671, gw_460⟩, rfl, by decide +kernel, by decide +kernel, by decide +kernel⟩
theorem mf_X12_tellsCut : mfV RX12 yX12_tellsCut cX12_tellsCut 3 (some .int) 2 := ⟨⟨gw_672, gw_673, gw_674, gw_460⟩, rfl, by decide +kernel, by decide +kernel, by decide +kernel⟩
theorem mf_X12_there : mfV RX12 yX12_there cX12_there 1 (some .int) 0 := ⟨⟨gw_675, gw_676, gw_677, gw_460⟩, rfl, by decide +kernel, by decide +kernel, by decide +kernel⟩
theorem mf_X12_thick : mfV RX12 yX12_thick cX12_thick 3 (some .int) 1 := ⟨⟨gw_678, gw_679, gw_680, gw_460⟩, rfl, by decide +kernel, by decide +kernel, by decide +kernel⟩
theorem mf_X12_thinRing : mfV RX12 yX12_thinRing cX12_thinRing 5 (some .int) 1 := ⟨⟨gw_681, gw_682, gw_683, gw_460⟩, rfl, by decide +kernel, by decide +kernel, by decide +kernel⟩
theorem mf_X12_those : mfV RX12 yX12_those cX12_those 7 (some .int) 1 := ⟨⟨gw_684, gw_685, gw_686, gw_460⟩, rfl, by decide +kernel, by decide +kernel, by decide +kernel⟩
theorem mf_X12_thrown : mfV RX12 yX12_thrown cX12_thrown 1 (some .int) 0 := ⟨⟨gw_687, gw_688, gw_689, gw_460⟩, rfl, by decide +kernel, by decide +kernel, by decide +kernel⟩
theorem mf_X12_trimmed : mfV RX12 yX12_trimmed cX12_trimmed 5 (some .int) 1 := ⟨⟨gw_690, gw_691, gw_692, gw_460⟩, rfl, by decide +kernel, by decide +kernel, by decide +kernel⟩
theorem mf_X12_undo : mfV RX12 yX12_undo cX12_undo 1 (some .int) 0 := ⟨⟨gw_693, gw_694, gw_695, gw_460⟩, rfl, by decide +kernel, by decide +kernel, by decide +kernel⟩
theorem mf_X12_upTo : mfV RX12 yX12_upTo cX12_upTo 2 (some .int) 1 := ⟨⟨gw_696, gw_697, gw_698, gw_460⟩, rfl, by decide +kernel, by decide +kernel, by decide +kernel⟩
theorem mf_X12_weigh : mfV RX12 yX12_weigh cX12_weigh 3 (some .int) 2 := ⟨⟨gw_699, gw_700, gw_701, gw_460⟩, rfl, by decide +kernel, by decide +kernel, by decide +kernel⟩
theorem mf_X12_weightOf : mfV RX12 yX12_weightOf cX12_weightOf 4 (some .int) 1 := ⟨⟨gw_702, gw_703, gw_704, gw_460⟩, rfl, by decide +kernel, by decide +kernel, by decide +kernel⟩
theorem mf_X1_below : mfV RX1 yX1_below cX1_below 2 (some .int) 1 := ⟨⟨gw_705, gw_706, gw_707, gw_708⟩, rfl, by decide +kernel, by decide +kernel, by decide +kernel⟩
theorem mf_X3_addLine : mfV RX3 yX3_addLine cX3_addLine 4 (some .boolean) 2 := ⟨⟨gw_709, gw_710, gw_711, gw_712⟩, rfl, by decide +kernel, by decide +kernel, by decide +kernel⟩
theorem mf_X3_addPoint : mfV RX3 yX3_addPoint cX3_addPoint 1 none 0 := ⟨⟨gw_713, gw_714, gw_715, gw_712⟩, rfl, by decide +kernel, by decide +kernel, by decide +kernel⟩
theorem mf_X3_areThere : mfV RX3 yX3_areThere cX3_areThere 2 (some .boolean) 1 := ⟨⟨gw_716, gw_717, gw_718, gw_712⟩, rfl, by decide +kernel, by decide +kernel, by decide +kernel⟩
theorem mf_X3_besides : mfV RX3 yX3_besides cX3_besides 5 (some .int) 2 := ⟨⟨gw_719, gw_720, gw_721, gw_712⟩, rfl, by decide +kernel, by decide +kernel, by decide +kernel⟩
theorem mf_X3_changeWeight : mfV RX3 yX3_changeWeight cX3_changeWeight 3 (some .boolean) 2 := ⟨⟨gw_722, gw_723, gw_724, gw_712⟩, rfl, by decide +kernel, by decide +kernel, by decide +kernel⟩
theorem mf_X3_copyFrom : mfV RX3 yX3_copyFrom cX3_copyFrom 3 none 1 := ⟨⟨gw_725, gw_726, gw_727, gw_712⟩, rfl, by decide +kernel, by decide +kernel, by decide +kernel⟩
theorem mf_X3_empty : mfV RX3 yX3_empty cX3_empty 2 none 0 := ⟨⟨gw_728, gw_729, gw_730, gw_712⟩, rfl, by decide +kernel, by decide +kernel, by decide +kernel⟩
theorem mf_X3_endsIn : mfV RX3 yX3_endsIn cX3_endsIn 5 (some .int) 2 := ⟨⟨gw_731, gw_732, gw_733, gw_712⟩, rfl, by decide +kernel, by decide +kernel, by decide +kernel⟩
theorem mf_X3_holds : mfS yX3_holds cX3_holds 2 (some .boolean) 2 := ⟨⟨gw_734, gw_735, gw_712⟩, by decide +kernel, by decide +kernel, by decide +kernel⟩
theorem mf_X3_isThere : mfV RX3 yX3_isThere cX3_isThere 2 (some .boolean) 1 := ⟨⟨gw_736, gw_737, gw_738, gw_712⟩, rfl, by decide +kernel, by decide +kernel, by decide +kernel⟩
theorem mf_X3_linesIn : mfV RX3 yX3_linesIn cX3_linesIn 4 (some .int) 1 := ⟨⟨gw_739, gw_740, gw_741, gw_712⟩, rfl, by decide +kernel, by decide +kernel, by decide +kernel⟩
theorem mf_X3_linesOf : mfV RX3 yX3_linesOf cX3_linesOf 4 (some .int) 2 := ⟨⟨gw_742, gw_743, gw_744, gw_712⟩, rfl, by decide +kernel, by decide +kernel, by decide +kernel⟩
theorem mf_X3_partsIn : mfV RX3 yX3_partsIn cX3_partsIn 5 (some .int) 1 := ⟨⟨gw_745, gw_746, gw_747, gw_712⟩, rfl, by decide +kernel, by decide +kernel, by decide +kernel⟩
theorem mf_X3_reachedFrom : mfV RX3 yX3_reachedFrom cX3_reachedFrom 8 (some .int) 2 := ⟨⟨gw_748, gw_749, gw_750, gw_712⟩, rfl, by decide +kernel, by decide +kernel, by decide +kernel⟩
theorem mf_X3_remove : mfV RX3 yX3_remove cX3_remove 3 (some .boolean) 1 := ⟨⟨gw_751, gw_752, gw_753, gw_712⟩, rfl, by decide +kernel, by decide +kernel, by decide +kernel⟩
theorem mf_X3_setLines : mfV RX3 yX3_setLines cX3_setLines 6 none 3 := ⟨⟨gw_754, gw_755, gw_756, gw_712⟩, rfl, by decide +kernel, by decide +kernel, by decide +kernel⟩
theorem mf_X3_takeLine : mfV RX3 yX3_takeLine cX3_takeLine 3 (some .boolean) 2 := ⟨⟨gw_757, gw_758, gw_759, gw_712⟩, rfl, by decide +kernel, by decide +kernel, by decide +kernel⟩
theorem mf_X3_weightOf : mfV RX3 yX3_weightOf cX3_weightOf 2 (some .int) 1 := ⟨⟨gw_760, gw_761, gw_762, gw_712⟩, rfl, by decide +kernel, by decide +kernel, by decide +kernel⟩
theorem mf_X3_weightOfSet : mfV RX3 yX3_weightOfSet cX3_weightOfSet 4 (some .int) 1 := ⟨⟨gw_763, gw_764, gw_765, gw_712⟩, rfl, by decide +kernel, by decide +kernel, by decide +kernel⟩
theorem mf_X4_learn : mfV RX4 yX4_learn cX4_learn 4 none 2 := ⟨⟨gw_766, gw_767, gw_768, gw_769⟩, rfl, by decide +kernel, by decide +kernel, by decide +kernel⟩
theorem mf_X4_leastOfMost : mfV RX4 yX4_leastOfMost cX4_leastOfMost 7 (some .int) 2 := ⟨⟨gw_770, gw_771, gw_772, gw_769⟩, rfl, by decide +kernel, by decide +kernel, by decide +kernel⟩
theorem mf_X4_mostIn : mfV RX4 yX4_mostIn cX4_mostIn 2 (some .int) 1 := ⟨⟨gw_773, gw_774, gw_775, gw_769⟩, rfl, by decide +kernel, by decide +kernel, by decide +kernel⟩
theorem mf_X4_mostWithLowest : mfV RX4 yX4_mostWithLowest cX4_mostWithLowest 8 (some .int) 2 := ⟨⟨gw_776, gw_777, gw_778, gw_769⟩, rfl, by decide +kernel, by decide +kernel, by decide +kernel⟩
theorem mf_X4_ringAt : mfV RX4 yX4_ringAt cX4_ringAt 8 (some .int) 3 := ⟨⟨gw_779, gw_780, gw_781, gw_769⟩, rfl, by decide +kernel, by decide +kernel, by decide +kernel⟩
theorem mf_X5_forget : mfV RX5 yX5_forget cX5_forget 1 none 0 := ⟨⟨gw_782, gw_783, gw_784, gw_785⟩, rfl, by decide +kernel, by decide +kernel, by decide +kernel⟩
theorem mf_X5_giveLatest : mfV RX5 yX5_giveLatest cX5_giveLatest 3 (some .boolean) 1 := ⟨⟨gw_786, gw_787, gw_788, gw_785⟩, rfl, by decide +kernel, by decide +kernel, by decide +kernel⟩
theorem mf_X5_keepNoted : mfV RX5 yX5_keepNoted cX5_keepNoted 1 none 0 := ⟨⟨gw_789, gw_790, gw_791, gw_785⟩, rfl, by decide +kernel, by decide +kernel, by decide +kernel⟩
theorem mf_X5_note : mfV RX5 yX5_note cX5_note 3 none 1 := ⟨⟨gw_792, gw_793, gw_794, gw_785⟩, rfl, by decide +kernel, by decide +kernel, by decide +kernel⟩
theorem mf_X5_placeAt : mfV RX5 yX5_placeAt cX5_placeAt 2 (some (.object "RingCutters$Net")) 1 := ⟨⟨gw_795, gw_796, gw_797, gw_785⟩, rfl, by decide +kernel, by decide +kernel, by decide +kernel⟩
theorem mf_X6_beginRow : mfV RX6 yX6_beginRow cX6_beginRow 2 (some .int) 0 := ⟨⟨gw_798, gw_799, gw_800, gw_801⟩, rfl, by decide +kernel, by decide +kernel, by decide +kernel⟩
theorem mf_X6_isDigit : mfS yX6_isDigit cX6_isDigit 1 (some .boolean) 1 := ⟨⟨gw_802, gw_803, gw_801⟩, by decide +kernel, by decide +kernel, by decide +kernel⟩
theorem mf_X6_isLetter : mfS yX6_isLetter cX6_isLetter 1 (some .boolean) 1 := ⟨⟨gw_804, gw_805, gw_801⟩, by decide +kernel, by decide +kernel, by decide +kernel⟩
theorem mf_X6_isName : mfV RX6 yX6_isName cX6_isName 1 (some .boolean) 0 := ⟨⟨gw_806, gw_807, gw_808, gw_801⟩, rfl, by decide +kernel, by decide +kernel, by decide +kernel⟩
theorem mf_X6_pointNamed : mfV RX6 yX6_pointNamed cX6_pointNamed 4 (some .int) 1 := ⟨⟨gw_809, gw_810, gw_811, gw_801⟩, rfl, by decide +kernel, by decide +kernel, by decide +kernel⟩
theorem mf_X6_readAll : mfV RX6 yX6_readAll cX6_readAll 6 (some .int) 1 := ⟨⟨gw_812, gw_813, gw_814, gw_801⟩, rfl, by decide +kernel, by decide +kernel, by decide +kernel⟩
theorem mf_X6_readToken : mfV RX6 yX6_readToken cX6_readToken 7 none 1 := ⟨⟨gw_815, gw_816, gw_817, gw_801⟩, rfl, by decide +kernel, by decide +kernel, by decide +kernel⟩
theorem mf_X6_takeFirst : mfV RX6 yX6_takeFirst cX6_takeFirst 1 (some .int) 0 := ⟨⟨gw_818, gw_819, gw_820, gw_801⟩, rfl, by decide +kernel, by decide +kernel, by decide +kernel⟩
theorem mf_X6_takeName : mfV RX6 yX6_takeName cX6_takeName 2 (some .int) 0 := ⟨⟨gw_821, gw_822, gw_823, gw_801⟩, rfl, by decide +kernel, by decide +kernel, by decide +kernel⟩
theorem mf_X6_takeSecond : mfV RX6 yX6_takeSecond cX6_takeSecond 2 (some .int) 0 := ⟨⟨gw_824, gw_825, gw_826, gw_801⟩, rfl, by decide +kernel, by decide +kernel, by decide +kernel⟩
theorem mf_X6_takeSign : mfV RX6 yX6_takeSign cX6_takeSign 1 (some .int) 0 := ⟨⟨gw_827, gw_828, gw_829, gw_801⟩, rfl, by decide +kernel, by decide +kernel, by decide +kernel⟩
theorem mf_X6_takeToken : mfV RX6 yX6_takeToken cX6_takeToken 1 (some .int) 0 := ⟨⟨gw_830, gw_831, gw_832, gw_801⟩, rfl, by decide +kernel, by decide +kernel, by decide +kernel⟩
theorem mf_X6_takeWeight : mfV RX6 yX6_takeWeight cX6_takeWeight 1 (some .int) 0 := ⟨⟨gw_833, gw_834, gw_835, gw_801⟩, rfl, by decide +kernel, by decide +kernel, by decide +kernel⟩
theorem mf_X7_of : mfS yX7_of cX7_of 8 (some .long) 1 := ⟨⟨gw_836, gw_837, gw_838⟩, by decide +kernel, by decide +kernel, by decide +kernel⟩
theorem mf_X7_waysBack : mfS yX7_waysBack cX7_waysBack 9 (some .long) 5 := ⟨⟨gw_839, gw_840, gw_838⟩, by decide +kernel, by decide +kernel, by decide +kernel⟩
theorem mf_X8_fewestOf : mfV RX8 yX8_fewestOf cX8_fewestOf 6 (some .int) 2 := ⟨⟨gw_841, gw_842, gw_843, gw_844⟩, rfl, by decide +kernel, by decide +kernel, by decide +kernel⟩
theorem mf_X8_isFree : mfV RX8 yX8_isFree cX8_isFree 2 (some .boolean) 1 := ⟨⟨gw_845, gw_846, gw_847, gw_844⟩, rfl, by decide +kernel, by decide +kernel, by decide +kernel⟩
theorem mf_X8_isFreeByTip : mfV RX8 yX8_isFreeByTip cX8_isFreeByTip 4 (some .boolean) 1 := ⟨⟨gw_848, gw_849, gw_850, gw_844⟩, rfl, by decide +kernel, by decide +kernel, by decide +kernel⟩
theorem mf_X8_isLeastRing : mfV RX8 yX8_isLeastRing cX8_isLeastRing 3 (some .boolean) 1 := ⟨⟨gw_851, gw_852, gw_853, gw_844⟩, rfl, by decide +kernel, by decide +kernel, by decide +kernel⟩
theorem mf_X8_learn : mfV RX8 yX8_learn cX8_learn 4 none 1 := ⟨⟨gw_854, gw_855, gw_856, gw_844⟩, rfl, by decide +kernel, by decide +kernel, by decide +kernel⟩
theorem mf_X8_learnRings : mfV RX8 yX8_learnRings cX8_learnRings 5 none 1 := ⟨⟨gw_857, gw_858, gw_859, gw_844⟩, rfl, by decide +kernel, by decide +kernel, by decide +kernel⟩
theorem mf_X8_lowest : mfS yX8_lowest cX8_lowest 1 (some .int) 1 := ⟨⟨gw_860, gw_861, gw_844⟩, by decide +kernel, by decide +kernel, by decide +kernel⟩
theorem mf_X8_ringAt : mfV RX8 yX8_ringAt cX8_ringAt 2 (some .int) 1 := ⟨⟨gw_862, gw_863, gw_864, gw_844⟩, rfl, by decide +kernel, by decide +kernel, by decide +kernel⟩
theorem mf_X8_shortestRing : mfV RX8 yX8_shortestRing cX8_shortestRing 5 (some .int) 0 := ⟨⟨gw_865, gw_866, gw_867, gw_844⟩, rfl, by decide +kernel, by decide +kernel, by decide +kernel⟩
theorem mf_X8_startOf : mfV RX8 yX8_startOf cX8_startOf 2 (some .int) 1 := ⟨⟨gw_868, gw_869, gw_870, gw_844⟩, rfl, by decide +kernel, by decide +kernel, by decide +kernel⟩
theorem mf_X9_passBy : mfS yX9_passBy cX9_passBy 5 (some .int) 1 := ⟨⟨gw_871, gw_872, gw_873⟩, by decide +kernel, by decide +kernel, by decide +kernel⟩
theorem mf_X9_removeTip : mfS yX9_removeTip cX9_removeTip 2 (some .int) 1 := ⟨⟨gw_874, gw_875, gw_873⟩, by decide +kernel, by decide +kernel, by decide +kernel⟩
theorem mf_X9_step : mfS yX9_step cX9_step 2 (some .int) 1 := ⟨⟨gw_876, gw_877, gw_873⟩, by decide +kernel, by decide +kernel, by decide +kernel⟩
theorem mf_X9_takeLooped : mfS yX9_takeLooped cX9_takeLooped 2 (some .int) 1 := ⟨⟨gw_878, gw_879, gw_873⟩, by decide +kernel, by decide +kernel, by decide +kernel⟩
theorem mf_X9_thinLines : mfS yX9_thinLines cX9_thinLines 3 (some .int) 1 := ⟨⟨gw_880, gw_881, gw_873⟩, by decide +kernel, by decide +kernel, by decide +kernel⟩
