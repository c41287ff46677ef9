/-! THE LAW AS A FUNCTION (by gen.py): its loop -/
def f_L_law_L23 (xs : Nat → Int32) (L : Nat) : Nat → GM → Int32 → Option (GM × Int32)
  | 0, _, _ => none
  | k + 1, σ, v4 =>
    if ((Int32.ofNat L) - (6 : Int32)) < v4 then
      some (σ, (1 : Int32))
    else
      bnd v4 L <|
      nm ((xs v4.toNatClampNeg) &&& (31 : Int32)) fun w_3 =>
      if w_3 = (0 : Int32) then
        nm (v4 + (1 : Int32)) fun i_4 =>
        bnd i_4 L <|
        nm (v4 + (2 : Int32)) fun i_6 =>
        bnd i_6 L <|
        nm (v4 + (3 : Int32)) fun i_8 =>
        bnd i_8 L <|
        nm (v4 + (4 : Int32)) fun i_10 =>
        bnd i_10 L <|
        nm (v4 + (5 : Int32)) fun i_12 =>
        bnd i_12 L <|
        ob2 (f_X11_feed σ (xs i_4.toNatClampNeg) (xs i_6.toNatClampNeg) (xs i_8.toNatClampNeg) (xs i_10.toNatClampNeg) (xs i_12.toNatClampNeg)) fun σ_15 r_14 =>
        nm (v4 + (1 : Int32)) fun i_16 =>
        bnd i_16 L <|
        nm (v4 + (2 : Int32)) fun i_18 =>
        bnd i_18 L <|
        nm (v4 + (3 : Int32)) fun i_20 =>
        bnd i_20 L <|
        nm (v4 + (4 : Int32)) fun i_22 =>
        bnd i_22 L <|
        nm (v4 + (5 : Int32)) fun i_24 =>
        bnd i_24 L <|
        ob2 (f_X12_feed σ_15 (xs i_16.toNatClampNeg) (xs i_18.toNatClampNeg) (xs i_20.toNatClampNeg) (xs i_22.toNatClampNeg) (xs i_24.toNatClampNeg)) fun σ_27 r_26 =>
        if r_14 = r_26 then
          nm (v4 + (6 : Int32)) fun v4_29 =>
          f_L_law_L23 xs L k σ_27 v4_29
        else
          some (σ_27, (0 : Int32))
      else
        if w_3 = (1 : Int32) then
          nm (v4 + (1 : Int32)) fun i_30 =>
          bnd i_30 L <|
          ob2 (f_X11_end σ (xs i_30.toNatClampNeg)) fun σ_33 r_32 =>
          nm (v4 + (1 : Int32)) fun i_34 =>
          bnd i_34 L <|
          ob2 (f_X12_end σ_33 (xs i_34.toNatClampNeg)) fun σ_37 r_36 =>
          if r_32 = r_36 then
            nm (v4 + (6 : Int32)) fun v4_39 =>
            f_L_law_L23 xs L k σ_37 v4_39
          else
            some (σ_37, (0 : Int32))
        else
          if w_3 = (2 : Int32) then
            ob2 (f_X11_net σ) fun σ_41 r_40 =>
            ob2 (f_X12_net σ_41) fun σ_43 r_42 =>
            if r_40 = r_42 then
              nm (v4 + (6 : Int32)) fun v4_45 =>
              f_L_law_L23 xs L k σ_43 v4_45
            else
              some (σ_43, (0 : Int32))
          else
            if w_3 = (3 : Int32) then
              ob (f_X11_fault σ) fun r_46 =>
              ob2 (f_X12_fault σ) fun σ_49 r_48 =>
              if r_46 = r_48 then
                nm (v4 + (6 : Int32)) fun v4_51 =>
                f_L_law_L23 xs L k σ_49 v4_51
              else
                some (σ_49, (0 : Int32))
            else
              if w_3 = (4 : Int32) then
                nm (v4 + (1 : Int32)) fun i_52 =>
                bnd i_52 L <|
                ob (f_X11_now σ (xs i_52.toNatClampNeg)) fun r_54 =>
                nm (v4 + (1 : Int32)) fun i_56 =>
                bnd i_56 L <|
                ob2 (f_X12_now σ (xs i_56.toNatClampNeg)) fun σ_59 r_58 =>
                if r_54 = r_58 then
                  nm (v4 + (6 : Int32)) fun v4_61 =>
                  f_L_law_L23 xs L k σ_59 v4_61
                else
                  some (σ_59, (0 : Int32))
              else
                if w_3 = (5 : Int32) then
                  nm (v4 + (1 : Int32)) fun i_62 =>
                  bnd i_62 L <|
                  nm (v4 + (2 : Int32)) fun i_64 =>
                  bnd i_64 L <|
                  ob2 (f_L_point σ (xs i_62.toNatClampNeg) (xs i_64.toNatClampNeg)) fun σ_67 r_66 =>
                  nm (v4 + (1 : Int32)) fun i_68 =>
                  bnd i_68 L <|
                  nm (v4 + (2 : Int32)) fun i_70 =>
                  bnd i_70 L <|
                  ob2 (f_X12_point σ_67 (xs i_68.toNatClampNeg) (xs i_70.toNatClampNeg)) fun σ_73 r_72 =>
                  ob (f_X12_thrown σ_73) fun r_74 =>
                  if r_74 = r_66 then
                    if r_66 = (0 : Int32) then
                      bnd (0 : Int32) 1 <|
                      if (lg_cmp (σ_73.2 75 (0 : Int32).toNatClampNeg) (r_72.toInt64)) = (0 : Int32) then
                        nm (v4 + (6 : Int32)) fun v4_81 =>
                        f_L_law_L23 xs L k σ_73 v4_81
                      else
                        some (σ_73, (0 : Int32))
                    else
                      nm (v4 + (6 : Int32)) fun v4_78 =>
                      f_L_law_L23 xs L k σ_73 v4_78
                  else
                    some (σ_73, (0 : Int32))
                else
                  if w_3 = (6 : Int32) then
                    nm (v4 + (1 : Int32)) fun i_82 =>
                    bnd i_82 L <|
                    nm (v4 + (2 : Int32)) fun i_84 =>
                    bnd i_84 L <|
                    ob (f_X11_lines σ (xs i_82.toNatClampNeg) (xs i_84.toNatClampNeg)) fun r_86 =>
                    nm (v4 + (1 : Int32)) fun i_88 =>
                    bnd i_88 L <|
                    nm (v4 + (2 : Int32)) fun i_90 =>
                    bnd i_90 L <|
                    ob2 (f_X12_lines σ (xs i_88.toNatClampNeg) (xs i_90.toNatClampNeg)) fun σ_93 r_92 =>
                    if r_86 = r_92 then
                      nm (v4 + (6 : Int32)) fun v4_95 =>
                      f_L_law_L23 xs L k σ_93 v4_95
                    else
                      some (σ_93, (0 : Int32))
                  else
                    if w_3 = (7 : Int32) then
                      nm (v4 + (1 : Int32)) fun i_96 =>
                      bnd i_96 L <|
                      ob2 (f_X11_cuts σ (xs i_96.toNatClampNeg)) fun σ_99 r_98 =>
                      nm (v4 + (1 : Int32)) fun i_100 =>
                      bnd i_100 L <|
                      ob2 (f_X12_cuts σ_99 (xs i_100.toNatClampNeg)) fun σ_103 r_102 =>
                      if r_98 = r_102 then
                        nm (v4 + (6 : Int32)) fun v4_105 =>
                        f_L_law_L23 xs L k σ_103 v4_105
                      else
                        some (σ_103, (0 : Int32))
                    else
                      if w_3 = (8 : Int32) then
                        nm (v4 + (1 : Int32)) fun i_106 =>
                        bnd i_106 L <|
                        ob2 (f_X11_fewest σ (xs i_106.toNatClampNeg)) fun σ_109 r_108 =>
                        nm (v4 + (1 : Int32)) fun i_110 =>
                        bnd i_110 L <|
                        ob2 (f_X12_fewest σ_109 (xs i_110.toNatClampNeg)) fun σ_113 r_112 =>
                        if r_108 = r_112 then
                          nm (v4 + (6 : Int32)) fun v4_115 =>
                          f_L_law_L23 xs L k σ_113 v4_115
                        else
                          some (σ_113, (0 : Int32))
                      else
                        if w_3 = (9 : Int32) then
                          nm (v4 + (1 : Int32)) fun i_116 =>
                          bnd i_116 L <|
                          ob2 (f_X11_lightest σ (xs i_116.toNatClampNeg)) fun σ_119 r_118 =>
                          nm (v4 + (1 : Int32)) fun i_120 =>
                          bnd i_120 L <|
                          ob2 (f_X12_lightest σ_119 (xs i_120.toNatClampNeg)) fun σ_123 r_122 =>
                          if r_118 = r_122 then
                            nm (v4 + (6 : Int32)) fun v4_125 =>
                            f_L_law_L23 xs L k σ_123 v4_125
                          else
                            some (σ_123, (0 : Int32))
                        else
                          if w_3 = (10 : Int32) then
                            nm (v4 + (1 : Int32)) fun i_126 =>
                            bnd i_126 L <|
                            ob2 (f_X11_those σ (xs i_126.toNatClampNeg)) fun σ_129 r_128 =>
                            nm (v4 + (1 : Int32)) fun i_130 =>
                            bnd i_130 L <|
                            ob2 (f_X12_those σ_129 (xs i_130.toNatClampNeg)) fun σ_133 r_132 =>
                            if r_128 = r_132 then
                              nm (v4 + (6 : Int32)) fun v4_135 =>
                              f_L_law_L23 xs L k σ_133 v4_135
                            else
                              some (σ_133, (0 : Int32))
                          else
                            if w_3 = (11 : Int32) then
                              nm (v4 + (1 : Int32)) fun i_136 =>
                              bnd i_136 L <|
                              ob2 (f_X11_sparing σ (xs i_136.toNatClampNeg)) fun σ_139 r_138 =>
                              nm (v4 + (1 : Int32)) fun i_140 =>
                              bnd i_140 L <|
                              ob2 (f_X12_sparing σ_139 (xs i_140.toNatClampNeg)) fun σ_143 r_142 =>
                              if r_138 = r_142 then
                                nm (v4 + (6 : Int32)) fun v4_145 =>
                                f_L_law_L23 xs L k σ_143 v4_145
                              else
                                some (σ_143, (0 : Int32))
                            else
                              if w_3 = (12 : Int32) then
                                nm (v4 + (1 : Int32)) fun i_146 =>
                                bnd i_146 L <|
                                ob2 (f_X11_upTo σ (xs i_146.toNatClampNeg)) fun σ_149 r_148 =>
                                nm (v4 + (1 : Int32)) fun i_150 =>
                                bnd i_150 L <|
                                ob2 (f_X12_upTo σ_149 (xs i_150.toNatClampNeg)) fun σ_153 r_152 =>
                                if r_148 = r_152 then
                                  nm (v4 + (6 : Int32)) fun v4_155 =>
                                  f_L_law_L23 xs L k σ_153 v4_155
                                else
                                  some (σ_153, (0 : Int32))
                              else
                                if w_3 = (13 : Int32) then
                                  ob (f_X11_rings σ) fun r_156 =>
                                  ob2 (f_X12_rings σ) fun σ_159 r_158 =>
                                  if (lg_cmp r_156 r_158) = (0 : Int32) then
                                    nm (v4 + (6 : Int32)) fun v4_161 =>
                                    f_L_law_L23 xs L k σ_159 v4_161
                                  else
                                    some (σ_159, (0 : Int32))
                                else
                                  if w_3 = (14 : Int32) then
                                    ob2 (f_X11_shortest σ) fun σ_163 r_162 =>
                                    ob2 (f_X12_shortest σ_163) fun σ_165 r_164 =>
                                    if r_162 = r_164 then
                                      nm (v4 + (6 : Int32)) fun v4_167 =>
                                      f_L_law_L23 xs L k σ_165 v4_167
                                    else
                                      some (σ_165, (0 : Int32))
                                  else
                                    if w_3 = (15 : Int32) then
                                      ob2 (f_X11_packed σ) fun σ_169 r_168 =>
                                      ob2 (f_X12_packed σ_169) fun σ_171 r_170 =>
                                      if r_168 = r_170 then
                                        nm (v4 + (6 : Int32)) fun v4_173 =>
                                        f_L_law_L23 xs L k σ_171 v4_173
                                      else
                                        some (σ_171, (0 : Int32))
                                    else
                                      if w_3 = (16 : Int32) then
                                        nm (v4 + (1 : Int32)) fun i_174 =>
                                        bnd i_174 L <|
                                        ob2 (f_X11_pack σ (xs i_174.toNatClampNeg)) fun σ_177 r_176 =>
                                        nm (v4 + (1 : Int32)) fun i_178 =>
                                        bnd i_178 L <|
                                        ob2 (f_X12_pack σ_177 (xs i_178.toNatClampNeg)) fun σ_181 r_180 =>
                                        if r_176 = r_180 then
                                          nm (v4 + (6 : Int32)) fun v4_183 =>
                                          f_L_law_L23 xs L k σ_181 v4_183
                                        else
                                          some (σ_181, (0 : Int32))
                                      else
                                        if w_3 = (17 : Int32) then
                                          ob2 (f_X11_near σ) fun σ_185 r_184 =>
                                          ob2 (f_X12_near σ_185) fun σ_187 r_186 =>
                                          if r_184 = r_186 then
                                            nm (v4 + (6 : Int32)) fun v4_189 =>
                                            f_L_law_L23 xs L k σ_187 v4_189
                                          else
                                            some (σ_187, (0 : Int32))
                                        else
                                          if w_3 = (18 : Int32) then
                                            nm (v4 + (1 : Int32)) fun i_190 =>
                                            bnd i_190 L <|
                                            ob2 (f_L_bound σ (xs i_190.toNatClampNeg)) fun σ_193 r_192 =>
                                            nm (v4 + (1 : Int32)) fun i_194 =>
                                            bnd i_194 L <|
                                            ob2 (f_X12_bound σ_193 (xs i_194.toNatClampNeg)) fun σ_197 r_196 =>
                                            ob (f_X12_thrown σ_197) fun r_198 =>
                                            if r_198 = r_192 then
                                              if r_192 = (0 : Int32) then
                                                bnd (0 : Int32) 1 <|
                                                if (lg_cmp (σ_197.2 75 (0 : Int32).toNatClampNeg) r_196) = (0 : Int32) then
                                                  nm (v4 + (6 : Int32)) fun v4_205 =>
                                                  f_L_law_L23 xs L k σ_197 v4_205
                                                else
                                                  some (σ_197, (0 : Int32))
                                              else
                                                nm (v4 + (6 : Int32)) fun v4_202 =>
                                                f_L_law_L23 xs L k σ_197 v4_202
                                            else
                                              some (σ_197, (0 : Int32))
                                          else
                                            if w_3 = (19 : Int32) then
                                              ob2 (f_X11_shrink σ) fun σ_207 r_206 =>
                                              ob2 (f_X12_shrink σ_207) fun σ_209 r_208 =>
                                              if r_206 = r_208 then
                                                nm (v4 + (6 : Int32)) fun v4_211 =>
                                                f_L_law_L23 xs L k σ_209 v4_211
                                              else
                                                some (σ_209, (0 : Int32))
                                            else
                                              if w_3 = (20 : Int32) then
                                                ob2 (f_X11_shrinkAll σ) fun σ_213 r_212 =>
                                                ob2 (f_X12_shrinkAll σ_213) fun σ_215 r_214 =>
                                                if r_212 = r_214 then
                                                  nm (v4 + (6 : Int32)) fun v4_217 =>
                                                  f_L_law_L23 xs L k σ_215 v4_217
                                                else
                                                  some (σ_215, (0 : Int32))
                                              else
                                                if w_3 = (21 : Int32) then
                                                  nm (v4 + (1 : Int32)) fun i_218 =>
                                                  bnd i_218 L <|
                                                  ob2 (f_X11_drop σ (xs i_218.toNatClampNeg)) fun σ_221 r_220 =>
                                                  nm (v4 + (1 : Int32)) fun i_222 =>
                                                  bnd i_222 L <|
                                                  ob2 (f_X12_drop σ_221 (xs i_222.toNatClampNeg)) fun σ_225 r_224 =>
                                                  if r_220 = r_224 then
                                                    nm (v4 + (6 : Int32)) fun v4_227 =>
                                                    f_L_law_L23 xs L k σ_225 v4_227
                                                  else
                                                    some (σ_225, (0 : Int32))
                                                else
                                                  if w_3 = (22 : Int32) then
                                                    nm (v4 + (1 : Int32)) fun i_228 =>
                                                    bnd i_228 L <|
                                                    nm (v4 + (2 : Int32)) fun i_230 =>
                                                    bnd i_230 L <|
                                                    ob2 (f_X11_join σ (xs i_228.toNatClampNeg) (xs i_230.toNatClampNeg)) fun σ_233 r_232 =>
                                                    nm (v4 + (1 : Int32)) fun i_234 =>
                                                    bnd i_234 L <|
                                                    nm (v4 + (2 : Int32)) fun i_236 =>
                                                    bnd i_236 L <|
                                                    ob2 (f_X12_join σ_233 (xs i_234.toNatClampNeg) (xs i_236.toNatClampNeg)) fun σ_239 r_238 =>
                                                    if r_232 = r_238 then
                                                      nm (v4 + (6 : Int32)) fun v4_241 =>
                                                      f_L_law_L23 xs L k σ_239 v4_241
                                                    else
                                                      some (σ_239, (0 : Int32))
                                                  else
                                                    if w_3 = (23 : Int32) then
                                                      nm (v4 + (1 : Int32)) fun i_242 =>
                                                      bnd i_242 L <|
                                                      nm (v4 + (2 : Int32)) fun i_244 =>
                                                      bnd i_244 L <|
                                                      ob2 (f_X11_part σ (xs i_242.toNatClampNeg) (xs i_244.toNatClampNeg)) fun σ_247 r_246 =>
                                                      nm (v4 + (1 : Int32)) fun i_248 =>
                                                      bnd i_248 L <|
                                                      nm (v4 + (2 : Int32)) fun i_250 =>
                                                      bnd i_250 L <|
                                                      ob2 (f_X12_part σ_247 (xs i_248.toNatClampNeg) (xs i_250.toNatClampNeg)) fun σ_253 r_252 =>
                                                      if r_246 = r_252 then
                                                        nm (v4 + (6 : Int32)) fun v4_255 =>
                                                        f_L_law_L23 xs L k σ_253 v4_255
                                                      else
                                                        some (σ_253, (0 : Int32))
                                                    else
                                                      if w_3 = (24 : Int32) then
                                                        nm (v4 + (1 : Int32)) fun i_256 =>
                                                        bnd i_256 L <|
                                                        nm (v4 + (2 : Int32)) fun i_258 =>
                                                        bnd i_258 L <|
                                                        ob2 (f_X11_weigh σ (xs i_256.toNatClampNeg) (xs i_258.toNatClampNeg)) fun σ_261 r_260 =>
                                                        nm (v4 + (1 : Int32)) fun i_262 =>
                                                        bnd i_262 L <|
                                                        nm (v4 + (2 : Int32)) fun i_264 =>
                                                        bnd i_264 L <|
                                                        ob2 (f_X12_weigh σ_261 (xs i_262.toNatClampNeg) (xs i_264.toNatClampNeg)) fun σ_267 r_266 =>
                                                        if r_260 = r_266 then
                                                          nm (v4 + (6 : Int32)) fun v4_269 =>
                                                          f_L_law_L23 xs L k σ_267 v4_269
                                                        else
                                                          some (σ_267, (0 : Int32))
                                                      else
                                                        if w_3 = (25 : Int32) then
                                                          nm (v4 + (1 : Int32)) fun i_270 =>
                                                          bnd i_270 L <|
                                                          nm (v4 + (2 : Int32)) fun i_272 =>
                                                          bnd i_272 L <|
                                                          ob2 (f_X11_drawn σ (xs i_270.toNatClampNeg) (xs i_272.toNatClampNeg)) fun σ_275 r_274 =>
                                                          nm (v4 + (1 : Int32)) fun i_276 =>
                                                          bnd i_276 L <|
                                                          nm (v4 + (2 : Int32)) fun i_278 =>
                                                          bnd i_278 L <|
                                                          ob2 (f_X12_drawn σ_275 (xs i_276.toNatClampNeg) (xs i_278.toNatClampNeg)) fun σ_281 r_280 =>
                                                          if r_274 = r_280 then
                                                            nm (v4 + (6 : Int32)) fun v4_283 =>
                                                            f_L_law_L23 xs L k σ_281 v4_283
                                                          else
                                                            some (σ_281, (0 : Int32))
                                                        else
                                                          if w_3 = (26 : Int32) then
                                                            ob2 (f_X11_undo σ) fun σ_285 r_284 =>
                                                            ob2 (f_X12_undo σ_285) fun σ_287 r_286 =>
                                                            if r_284 = r_286 then
                                                              nm (v4 + (6 : Int32)) fun v4_289 =>
                                                              f_L_law_L23 xs L k σ_287 v4_289
                                                            else
                                                              some (σ_287, (0 : Int32))
                                                          else
                                                            if w_3 = (27 : Int32) then
                                                              nm (v4 + (1 : Int32)) fun i_290 =>
                                                              bnd i_290 L <|
                                                              ob2 (f_X11_image σ (xs i_290.toNatClampNeg)) fun σ_293 r_292 =>
                                                              nm (v4 + (1 : Int32)) fun i_294 =>
                                                              bnd i_294 L <|
                                                              ob2 (f_X12_image σ_293 (xs i_294.toNatClampNeg)) fun σ_297 r_296 =>
                                                              if r_292 = r_296 then
                                                                nm (v4 + (6 : Int32)) fun v4_299 =>
                                                                f_L_law_L23 xs L k σ_297 v4_299
                                                              else
                                                                some (σ_297, (0 : Int32))
                                                            else
                                                              if w_3 = (28 : Int32) then
                                                                nm (v4 + (1 : Int32)) fun i_300 =>
                                                                bnd i_300 L <|
                                                                ob2 (f_X11_restore σ (xs i_300.toNatClampNeg)) fun σ_303 r_302 =>
                                                                nm (v4 + (1 : Int32)) fun i_304 =>
                                                                bnd i_304 L <|
                                                                ob2 (f_X12_restore σ_303 (xs i_304.toNatClampNeg)) fun σ_307 r_306 =>
                                                                if r_302 = r_306 then
                                                                  nm (v4 + (6 : Int32)) fun v4_309 =>
                                                                  f_L_law_L23 xs L k σ_307 v4_309
                                                                else
                                                                  some (σ_307, (0 : Int32))
                                                              else
                                                                nm (v4 + (6 : Int32)) fun v4_310 =>
                                                                f_L_law_L23 xs L k σ v4_310
