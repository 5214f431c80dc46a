set_option maxRecDepth 100000 in
noncomputable def l_Law_law_23 (N : Nat) (xs : Nat → Int32) (g : Nat) (S : MS) (v0 : Nat) (v1 : Nat) (v2 : Nat) (v3 : Nat) : Nat → MI → ML → MR → Int32 → Option (Int32 × MI × ML × MR)
  | 0, _, _, _, _ => none
  | f + 1, I, L, R, v4 =>
    ifb (((Int32.ofNat N) - 5) < v4)
      (some (1, I, L, R))
      (asrt (vp_in v4 N) <|
      lt ((xs (Int32.toNatClampNeg v4)) &&& 63) fun (x3 : Int32) =>
      ifb (x3 = 0)
        (lt (v4 + 1) fun (x5 : Int32) =>
        asrt (vp_in x5 N) <|
        asrt ((S v1).1 = 11) <|
        bnd2 (f_GWL_sign g S R I v1 (xs (Int32.toNatClampNeg x5))) fun x8 I9 =>
        lt (v4 + 1) fun (x11 : Int32) =>
        asrt (vp_in x11 N) <|
        asrt ((S v2).1 = 12) <|
        bnd2 (f_Mod_sign g S R I9 v2 (xs (Int32.toNatClampNeg x11))) fun x14 I15 =>
        ifb (x8 = x14)
          (l_Law_law_23 N xs g S v0 v1 v2 v3 f I15 L R (v4 + 5))
          (some (0, I15, L, R)))
        (ifb (x3 = 1)
          (lt (v4 + 1) fun (x18 : Int32) =>
          asrt (vp_in x18 N) <|
          asrt ((S v1).1 = 11) <|
          bnd2 (f_GWL_end S R I v1 (xs (Int32.toNatClampNeg x18))) fun x21 I22 =>
          lt (v4 + 1) fun (x24 : Int32) =>
          asrt (vp_in x24 N) <|
          asrt ((S v2).1 = 12) <|
          bnd2 (f_Mod_end S I22 v2 (xs (Int32.toNatClampNeg x24))) fun x27 I28 =>
          ifb (x21 = x27)
            (l_Law_law_23 N xs g S v0 v1 v2 v3 f I28 L R (v4 + 5))
            (some (0, I28, L, R)))
          (ifb (x3 = 2)
            (asrt ((S v1).1 = 11) <|
            bnd2 (f_GWL_moor g S R I v1) fun x32 I33 =>
            asrt ((S v2).1 = 12) <|
            bnd2 (f_Mod_moor g S R I33 v2) fun x36 I37 =>
            ifb (x32 = x36)
              (l_Law_law_23 N xs g S v0 v1 v2 v3 f I37 L R (v4 + 5))
              (some (0, I37, L, R)))
            (ifb (x3 = 3)
              (asrt ((S v1).1 = 11) <|
              bnd2 (f_GWL_fee g S R I v1) fun x41 I42 =>
              asrt ((S v2).1 = 12) <|
              bnd2 (f_Mod_fee g S R I42 v2) fun x45 I46 =>
              ifb (x41 = x45)
                (l_Law_law_23 N xs g S v0 v1 v2 v3 f I46 L R (v4 + 5))
                (some (0, I46, L, R)))
              (ifb (x3 = 4)
                (lt (v4 + 1) fun (x49 : Int32) =>
                asrt (vp_in x49 N) <|
                asrt ((S v1).1 = 11) <|
                bnd1 (f_GWL_cell S R I v1 (xs (Int32.toNatClampNeg x49))) fun x52 =>
                lt (v4 + 1) fun (x54 : Int32) =>
                asrt (vp_in x54 N) <|
                asrt ((S v2).1 = 12) <|
                bnd2 (f_Mod_cell S R I v2 (xs (Int32.toNatClampNeg x54))) fun x57 I58 =>
                ifb (x52 = x57)
                  (l_Law_law_23 N xs g S v0 v1 v2 v3 f I58 L R (v4 + 5))
                  (some (0, I58, L, R)))
                (ifb (x3 = 5)
                  (lt (v4 + 1) fun (x61 : Int32) =>
                  asrt (vp_in x61 N) <|
                  lt (v4 + 2) fun (x63 : Int32) =>
                  asrt (vp_in x63 N) <|
                  asrt ((S v1).1 = 11) <|
                  bnd2 (f_GWL_put g S R I v1 (xs (Int32.toNatClampNeg x61)) (xs (Int32.toNatClampNeg x63))) fun x66 I67 =>
                  lt (v4 + 1) fun (x69 : Int32) =>
                  asrt (vp_in x69 N) <|
                  lt (v4 + 2) fun (x71 : Int32) =>
                  asrt (vp_in x71 N) <|
                  asrt ((S v2).1 = 12) <|
                  bnd2 (f_Mod_put S R I67 v2 (xs (Int32.toNatClampNeg x69)) (xs (Int32.toNatClampNeg x71))) fun x74 I75 =>
                  ifb (x66 = x74)
                    (l_Law_law_23 N xs g S v0 v1 v2 v3 f I75 L R (v4 + 5))
                    (some (0, I75, L, R)))
                  (ifb (x3 = 6)
                    (lt (v4 + 1) fun (x78 : Int32) =>
                    asrt (vp_in x78 N) <|
                    lt (v4 + 2) fun (x80 : Int32) =>
                    asrt (vp_in x80 N) <|
                    asrt ((S v1).1 = 11) <|
                    bnd2 (f_GWL_go S R I v1 (xs (Int32.toNatClampNeg x78)) (xs (Int32.toNatClampNeg x80))) fun x83 I84 =>
                    lt (v4 + 1) fun (x86 : Int32) =>
                    asrt (vp_in x86 N) <|
                    lt (v4 + 2) fun (x88 : Int32) =>
                    asrt (vp_in x88 N) <|
                    asrt ((S v2).1 = 12) <|
                    bnd2 (f_Mod_go S R I84 v2 (xs (Int32.toNatClampNeg x86)) (xs (Int32.toNatClampNeg x88))) fun x91 I92 =>
                    ifb (x83 = x91)
                      (l_Law_law_23 N xs g S v0 v1 v2 v3 f I92 L R (v4 + 5))
                      (some (0, I92, L, R)))
                    (ifb (x3 = 7)
                      (lt (v4 + 1) fun (x95 : Int32) =>
                      asrt (vp_in x95 N) <|
                      lt (v4 + 2) fun (x97 : Int32) =>
                      asrt (vp_in x97 N) <|
                      asrt ((S v1).1 = 11) <|
                      bnd2 (f_GWL_weights S R I v1 (xs (Int32.toNatClampNeg x95)) (xs (Int32.toNatClampNeg x97))) fun x100 I101 =>
                      lt (v4 + 1) fun (x103 : Int32) =>
                      asrt (vp_in x103 N) <|
                      lt (v4 + 2) fun (x105 : Int32) =>
                      asrt (vp_in x105 N) <|
                      asrt ((S v2).1 = 12) <|
                      bnd2 (f_Mod_weights S R I101 v2 (xs (Int32.toNatClampNeg x103)) (xs (Int32.toNatClampNeg x105))) fun x108 I109 =>
                      ifb (x100 = x108)
                        (l_Law_law_23 N xs g S v0 v1 v2 v3 f I109 L R (v4 + 5))
                        (some (0, I109, L, R)))
                      (ifb (x3 = 8)
                        (lt (v4 + 1) fun (x112 : Int32) =>
                        asrt (vp_in x112 N) <|
                        lt (v4 + 2) fun (x114 : Int32) =>
                        asrt (vp_in x114 N) <|
                        asrt ((S v1).1 = 11) <|
                        bnd2 (f_GWL_set S R I v1 (xs (Int32.toNatClampNeg x112)) (xs (Int32.toNatClampNeg x114))) fun x117 I118 =>
                        lt (v4 + 1) fun (x120 : Int32) =>
                        asrt (vp_in x120 N) <|
                        lt (v4 + 2) fun (x122 : Int32) =>
                        asrt (vp_in x122 N) <|
                        asrt ((S v2).1 = 12) <|
                        bnd2 (f_Mod_set S I118 v2 (xs (Int32.toNatClampNeg x120)) (xs (Int32.toNatClampNeg x122))) fun x125 I126 =>
                        ifb (x117 = x125)
                          (l_Law_law_23 N xs g S v0 v1 v2 v3 f I126 L R (v4 + 5))
                          (some (0, I126, L, R)))
                        (ifb (x3 = 9)
                          (lt (v4 + 1) fun (x129 : Int32) =>
                          asrt (vp_in x129 N) <|
                          lt (v4 + 2) fun (x131 : Int32) =>
                          asrt (vp_in x131 N) <|
                          lt (v4 + 3) fun (x133 : Int32) =>
                          asrt (vp_in x133 N) <|
                          lt (v4 + 4) fun (x135 : Int32) =>
                          asrt (vp_in x135 N) <|
                          asrt ((S v1).1 = 11) <|
                          bnd2 (f_GWL_sheet g S R I v1 (xs (Int32.toNatClampNeg x129)) (xs (Int32.toNatClampNeg x131)) (xs (Int32.toNatClampNeg x133)) (xs (Int32.toNatClampNeg x135))) fun x138 I139 =>
                          lt (v4 + 1) fun (x141 : Int32) =>
                          asrt (vp_in x141 N) <|
                          lt (v4 + 2) fun (x143 : Int32) =>
                          asrt (vp_in x143 N) <|
                          lt (v4 + 3) fun (x145 : Int32) =>
                          asrt (vp_in x145 N) <|
                          lt (v4 + 4) fun (x147 : Int32) =>
                          asrt (vp_in x147 N) <|
                          asrt ((S v2).1 = 12) <|
                          bnd2 (f_Mod_sheet g S R I139 v2 (xs (Int32.toNatClampNeg x141)) (xs (Int32.toNatClampNeg x143)) (xs (Int32.toNatClampNeg x145)) (xs (Int32.toNatClampNeg x147))) fun x150 I151 =>
                          ifb (x138 = x150)
                            (l_Law_law_23 N xs g S v0 v1 v2 v3 f I151 L R (v4 + 5))
                            (some (0, I151, L, R)))
                          (ifb (x3 = 10)
                            (lt (v4 + 1) fun (x154 : Int32) =>
                            asrt (vp_in x154 N) <|
                            asrt ((S v1).1 = 11) <|
                            bnd2 (f_GWL_step S R I v1 (xs (Int32.toNatClampNeg x154))) fun x157 I158 =>
                            lt (v4 + 1) fun (x160 : Int32) =>
                            asrt (vp_in x160 N) <|
                            asrt ((S v2).1 = 12) <|
                            bnd2 (f_Mod_step g S R I158 v2 (xs (Int32.toNatClampNeg x160))) fun x163 I164 =>
                            ifb (x157 = x163)
                              (l_Law_law_23 N xs g S v0 v1 v2 v3 f I164 L R (v4 + 5))
                              (some (0, I164, L, R)))
                            (ifb (x3 = 11)
                              (asrt ((S v1).1 = 11) <|
                              bnd3 (f_GWL_alone S R I L v1) fun x168 I169 L170 =>
                              asrt ((S v2).1 = 12) <|
                              bnd3 (f_Mod_alone g S R I169 L170 v2) fun x173 I174 L175 =>
                              ifb (x168 = x173)
                                (l_Law_law_23 N xs g S v0 v1 v2 v3 f I174 L175 R (v4 + 5))
                                (some (0, I174, L175, R)))
                              (ifb (x3 = 12)
                                (lt (v4 + 1) fun (x178 : Int32) =>
                                asrt (vp_in x178 N) <|
                                asrt ((S v1).1 = 11) <|
                                bnd3 (f_GWL_ask S R I L v1 (xs (Int32.toNatClampNeg x178))) fun x181 I182 L183 =>
                                lt (v4 + 1) fun (x185 : Int32) =>
                                asrt (vp_in x185 N) <|
                                asrt ((S v2).1 = 12) <|
                                bnd3 (f_Mod_ask g S R I182 L183 v2 (xs (Int32.toNatClampNeg x185))) fun x188 I189 L190 =>
                                ifb (x181 = x188)
                                  (l_Law_law_23 N xs g S v0 v1 v2 v3 f I189 L190 R (v4 + 5))
                                  (some (0, I189, L190, R)))
                                (ifb (x3 = 13)
                                  (asrt ((S v1).1 = 11) <|
                                  bnd2 (f_GWL_undo S R I v1) fun x194 I195 =>
                                  asrt ((S v2).1 = 12) <|
                                  bnd2 (f_Mod_undo g S R I195 v2) fun x198 I199 =>
                                  ifb (x194 = x198)
                                    (l_Law_law_23 N xs g S v0 v1 v2 v3 f I199 L R (v4 + 5))
                                    (some (0, I199, L, R)))
                                  (ifb (x3 = 14)
                                    (asrt ((S v1).1 = 11) <|
                                    bnd3 (f_GWL_look g S R I L v1) fun x203 I204 L205 =>
                                    asrt ((S v2).1 = 12) <|
                                    bnd3 (f_Mod_look g S R I204 L205 v2) fun x208 I209 L210 =>
                                    ifb (x203 = x208)
                                      (l_Law_law_23 N xs g S v0 v1 v2 v3 f I209 L210 R (v4 + 5))
                                      (some (0, I209, L210, R)))
                                    (ifb (x3 = 15)
                                      (asrt ((S v1).1 = 11) <|
                                      bnd3 (f_GWL_way g S R I L v1) fun x214 I215 L216 =>
                                      asrt ((S v2).1 = 12) <|
                                      bnd3 (f_Mod_way g S R I215 L216 v2) fun x219 I220 L221 =>
                                      ifb (x214 = x219)
                                        (l_Law_law_23 N xs g S v0 v1 v2 v3 f I220 L221 R (v4 + 5))
                                        (some (0, I220, L221, R)))
                                      (ifb (x3 = 16)
                                        (asrt ((S v1).1 = 11) <|
                                        bnd3 (f_GWL_reach g S R I L v1) fun x225 I226 L227 =>
                                        asrt ((S v2).1 = 12) <|
                                        bnd3 (f_Mod_reach g S R I226 L227 v2) fun x230 I231 L232 =>
                                        ifb (x225 = x230)
                                          (l_Law_law_23 N xs g S v0 v1 v2 v3 f I231 L232 R (v4 + 5))
                                          (some (0, I231, L232, R)))
                                        (ifb (x3 = 17)
                                          (lt (v4 + 1) fun (x235 : Int32) =>
                                          asrt (vp_in x235 N) <|
                                          asrt ((S v1).1 = 11) <|
                                          bnd4 (f_GWL_never g S R I L v1 (xs (Int32.toNatClampNeg x235))) fun x238 I239 L240 R241 =>
                                          lt (v4 + 1) fun (x243 : Int32) =>
                                          asrt (vp_in x243 N) <|
                                          asrt ((S v2).1 = 12) <|
                                          bnd3 (f_Mod_never g S R241 I239 L240 v2 (xs (Int32.toNatClampNeg x243))) fun x246 I247 L248 =>
                                          ifb (x238 = x246)
                                            (l_Law_law_23 N xs g S v0 v1 v2 v3 f I247 L248 R241 (v4 + 5))
                                            (some (0, I247, L248, R241)))
                                          (ifb (x3 = 18)
                                            (lt (v4 + 1) fun (x251 : Int32) =>
                                            asrt (vp_in x251 N) <|
                                            asrt ((S v1).1 = 11) <|
                                            bnd4 (f_GWL_best g S R I L v1 (xs (Int32.toNatClampNeg x251))) fun x254 I255 L256 R257 =>
                                            lt (v4 + 1) fun (x259 : Int32) =>
                                            asrt (vp_in x259 N) <|
                                            asrt ((S v2).1 = 12) <|
                                            bnd3 (f_Mod_best g S R257 I255 L256 v2 (xs (Int32.toNatClampNeg x259))) fun x262 I263 L264 =>
                                            ifb (x254 = x262)
                                              (l_Law_law_23 N xs g S v0 v1 v2 v3 f I263 L264 R257 (v4 + 5))
                                              (some (0, I263, L264, R257)))
                                            (ifb (x3 = 19)
                                              (lt (v4 + 1) fun (x267 : Int32) =>
                                              asrt (vp_in x267 N) <|
                                              lt (v4 + 2) fun (x269 : Int32) =>
                                              asrt (vp_in x269 N) <|
                                              asrt ((S v1).1 = 11) <|
                                              bnd4 (f_GWL_fewest g S R I L v1 (xs (Int32.toNatClampNeg x267)) (xs (Int32.toNatClampNeg x269))) fun x272 I273 L274 R275 =>
                                              lt (v4 + 1) fun (x277 : Int32) =>
                                              asrt (vp_in x277 N) <|
                                              lt (v4 + 2) fun (x279 : Int32) =>
                                              asrt (vp_in x279 N) <|
                                              asrt ((S v2).1 = 12) <|
                                              bnd3 (f_Mod_fewest g S R275 I273 L274 v2 (xs (Int32.toNatClampNeg x277)) (xs (Int32.toNatClampNeg x279))) fun x282 I283 L284 =>
                                              ifb (x272 = x282)
                                                (l_Law_law_23 N xs g S v0 v1 v2 v3 f I283 L284 R275 (v4 + 5))
                                                (some (0, I283, L284, R275)))
                                              (ifb (x3 = 20)
                                                (lt (v4 + 1) fun (x287 : Int32) =>
                                                asrt (vp_in x287 N) <|
                                                asrt ((S v1).1 = 11) <|
                                                bnd4 (f_GWL_should g S R I L v1 (xs (Int32.toNatClampNeg x287))) fun x290 I291 L292 R293 =>
                                                lt (v4 + 1) fun (x295 : Int32) =>
                                                asrt (vp_in x295 N) <|
                                                asrt ((S v2).1 = 12) <|
                                                bnd3 (f_Mod_should g S R293 I291 L292 v2 (xs (Int32.toNatClampNeg x295))) fun x298 I299 L300 =>
                                                ifb (x290 = x298)
                                                  (l_Law_law_23 N xs g S v0 v1 v2 v3 f I299 L300 R293 (v4 + 5))
                                                  (some (0, I299, L300, R293)))
                                                (ifb (x3 = 21)
                                                  (lt (v4 + 1) fun (x303 : Int32) =>
                                                  asrt (vp_in x303 N) <|
                                                  asrt ((S v1).1 = 11) <|
                                                  bnd4 (f_GWL_safest g S R I L v1 (xs (Int32.toNatClampNeg x303))) fun x306 I307 L308 R309 =>
                                                  lt (v4 + 1) fun (x311 : Int32) =>
                                                  asrt (vp_in x311 N) <|
                                                  asrt ((S v2).1 = 12) <|
                                                  bnd3 (f_Mod_safest g S R309 I307 L308 v2 (xs (Int32.toNatClampNeg x311))) fun x314 I315 L316 =>
                                                  ifb (x306 = x314)
                                                    (l_Law_law_23 N xs g S v0 v1 v2 v3 f I315 L316 R309 (v4 + 5))
                                                    (some (0, I315, L316, R309)))
                                                  (ifb (x3 = 22)
                                                    (lt (v4 + 1) fun (x319 : Int32) =>
                                                    asrt (vp_in x319 N) <|
                                                    asrt ((S v1).1 = 11) <|
                                                    bnd3 (f_GWL_perils g S R I L v1 (xs (Int32.toNatClampNeg x319))) fun x322 I323 L324 =>
                                                    lt (v4 + 1) fun (x326 : Int32) =>
                                                    asrt (vp_in x326 N) <|
                                                    asrt ((S v2).1 = 12) <|
                                                    bnd3 (f_Mod_perils g S R I323 L324 v2 (xs (Int32.toNatClampNeg x326))) fun x329 I330 L331 =>
                                                    ifb (x322 = x329)
                                                      (l_Law_law_23 N xs g S v0 v1 v2 v3 f I330 L331 R (v4 + 5))
                                                      (some (0, I330, L331, R)))
                                                    (ifb (x3 = 23)
                                                      (lt (v4 + 1) fun (x334 : Int32) =>
                                                      asrt (vp_in x334 N) <|
                                                      lt (v4 + 2) fun (x336 : Int32) =>
                                                      asrt (vp_in x336 N) <|
                                                      asrt ((S v1).1 = 11) <|
                                                      bnd4 (f_GWL_behind g S R I L v1 (xs (Int32.toNatClampNeg x334)) (xs (Int32.toNatClampNeg x336))) fun x339 I340 L341 R342 =>
                                                      lt (v4 + 1) fun (x344 : Int32) =>
                                                      asrt (vp_in x344 N) <|
                                                      lt (v4 + 2) fun (x346 : Int32) =>
                                                      asrt (vp_in x346 N) <|
                                                      asrt ((S v2).1 = 12) <|
                                                      bnd3 (f_Mod_behind g S R342 I340 L341 v2 (xs (Int32.toNatClampNeg x344)) (xs (Int32.toNatClampNeg x346))) fun x349 I350 L351 =>
                                                      ifb (x339 = x349)
                                                        (l_Law_law_23 N xs g S v0 v1 v2 v3 f I350 L351 R342 (v4 + 5))
                                                        (some (0, I350, L351, R342)))
                                                      (ifb (x3 = 24)
                                                        (lt (v4 + 1) fun (x354 : Int32) =>
                                                        asrt (vp_in x354 N) <|
                                                        lt (v4 + 2) fun (x356 : Int32) =>
                                                        asrt (vp_in x356 N) <|
                                                        asrt ((S v1).1 = 11) <|
                                                        bnd4 (f_GWL_loud g S R I L v1 (xs (Int32.toNatClampNeg x354)) (xs (Int32.toNatClampNeg x356))) fun x359 I360 L361 R362 =>
                                                        lt (v4 + 1) fun (x364 : Int32) =>
                                                        asrt (vp_in x364 N) <|
                                                        lt (v4 + 2) fun (x366 : Int32) =>
                                                        asrt (vp_in x366 N) <|
                                                        asrt ((S v2).1 = 12) <|
                                                        bnd3 (f_Mod_loud g S R362 I360 L361 v2 (xs (Int32.toNatClampNeg x364)) (xs (Int32.toNatClampNeg x366))) fun x369 I370 L371 =>
                                                        ifb (x359 = x369)
                                                          (l_Law_law_23 N xs g S v0 v1 v2 v3 f I370 L371 R362 (v4 + 5))
                                                          (some (0, I370, L371, R362)))
                                                        (ifb (x3 = 25)
                                                          (asrt ((S v1).1 = 11) <|
                                                          bnd1 (f_GWL_owed S R I v1) fun x375 =>
                                                          asrt ((S v2).1 = 12) <|
                                                          bnd2 (f_Mod_owed S R I v2) fun x378 I379 =>
                                                          ifb (x375 = x378)
                                                            (l_Law_law_23 N xs g S v0 v1 v2 v3 f I379 L R (v4 + 5))
                                                            (some (0, I379, L, R)))
                                                          (ifb (x3 = 26)
                                                            (lt (v4 + 1) fun (x382 : Int32) =>
                                                            asrt (vp_in x382 N) <|
                                                            asrt ((S v1).1 = 11) <|
                                                            bnd4 (f_GWL_greed g S R I L v1 (xs (Int32.toNatClampNeg x382))) fun x385 I386 L387 R388 =>
                                                            lt (v4 + 1) fun (x390 : Int32) =>
                                                            asrt (vp_in x390 N) <|
                                                            asrt ((S v2).1 = 12) <|
                                                            bnd3 (f_Mod_greed g S R388 I386 L387 v2 (xs (Int32.toNatClampNeg x390))) fun x393 I394 L395 =>
                                                            ifb (x385 = x393)
                                                              (l_Law_law_23 N xs g S v0 v1 v2 v3 f I394 L395 R388 (v4 + 5))
                                                              (some (0, I394, L395, R388)))
                                                            (ifb (x3 = 27)
                                                              (lt (v4 + 1) fun (x398 : Int32) =>
                                                              asrt (vp_in x398 N) <|
                                                              asrt ((S v1).1 = 11) <|
                                                              bnd4 (f_GWL_honest g S R I L v1 (xs (Int32.toNatClampNeg x398))) fun x401 I402 L403 R404 =>
                                                              lt (v4 + 1) fun (x406 : Int32) =>
                                                              asrt (vp_in x406 N) <|
                                                              asrt ((S v2).1 = 12) <|
                                                              bnd3 (f_Mod_honest g S R404 I402 L403 v2 (xs (Int32.toNatClampNeg x406))) fun x409 I410 L411 =>
                                                              ifb (x401 = x409)
                                                                (l_Law_law_23 N xs g S v0 v1 v2 v3 f I410 L411 R404 (v4 + 5))
                                                                (some (0, I410, L411, R404)))
                                                              (ifb (x3 = 28)
                                                                (lt (v4 + 1) fun (x414 : Int32) =>
                                                                asrt (vp_in x414 N) <|
                                                                asrt ((S v1).1 = 11) <|
                                                                bnd2 (f_GWL_shelf S R I v1 (xs (Int32.toNatClampNeg x414))) fun x417 I418 =>
                                                                lt (v4 + 1) fun (x420 : Int32) =>
                                                                asrt (vp_in x420 N) <|
                                                                asrt ((S v2).1 = 12) <|
                                                                bnd2 (f_Mod_shelf g S R I418 v2 (xs (Int32.toNatClampNeg x420))) fun x423 I424 =>
                                                                ifb (x417 = x423)
                                                                  (l_Law_law_23 N xs g S v0 v1 v2 v3 f I424 L R (v4 + 5))
                                                                  (some (0, I424, L, R)))
                                                                (ifb (x3 = 29)
                                                                  (lt (v4 + 1) fun (x427 : Int32) =>
                                                                  asrt (vp_in x427 N) <|
                                                                  asrt ((S v1).1 = 11) <|
                                                                  bnd4 (f_GWL_fairest g S R I L v1 (xs (Int32.toNatClampNeg x427))) fun x430 I431 L432 R433 =>
                                                                  lt (v4 + 1) fun (x435 : Int32) =>
                                                                  asrt (vp_in x435 N) <|
                                                                  asrt ((S v2).1 = 12) <|
                                                                  bnd3 (f_Mod_fairest g S R433 I431 L432 v2 (xs (Int32.toNatClampNeg x435))) fun x438 I439 L440 =>
                                                                  ifb (x430 = x438)
                                                                    (l_Law_law_23 N xs g S v0 v1 v2 v3 f I439 L440 R433 (v4 + 5))
                                                                    (some (0, I439, L440, R433)))
                                                                  (ifb (x3 = 30)
                                                                    (lt (v4 + 1) fun (x443 : Int32) =>
                                                                    asrt (vp_in x443 N) <|
                                                                    asrt ((S v1).1 = 11) <|
                                                                    bnd1 (f_GWL_track S R I v1 (xs (Int32.toNatClampNeg x443))) fun x446 =>
                                                                    lt (v4 + 1) fun (x448 : Int32) =>
                                                                    asrt (vp_in x448 N) <|
                                                                    asrt ((S v2).1 = 12) <|
                                                                    bnd2 (f_Mod_track S R I v2 (xs (Int32.toNatClampNeg x448))) fun x451 I452 =>
                                                                    ifb (x446 = x451)
                                                                      (l_Law_law_23 N xs g S v0 v1 v2 v3 f I452 L R (v4 + 5))
                                                                      (some (0, I452, L, R)))
                                                                    (ifb (x3 = 31)
                                                                      (asrt ((S v1).1 = 11) <|
                                                                      bnd2 (f_GWL_rain g S R I v1) fun x456 I457 =>
                                                                      asrt ((S v2).1 = 12) <|
                                                                      bnd2 (f_Mod_rain g S R I457 v2) fun x460 I461 =>
                                                                      ifb (x456 = x460)
                                                                        (l_Law_law_23 N xs g S v0 v1 v2 v3 f I461 L R (v4 + 5))
                                                                        (some (0, I461, L, R)))
                                                                      (ifb (x3 = 32)
                                                                        (lt (v4 + 1) fun (x464 : Int32) =>
                                                                        asrt (vp_in x464 N) <|
                                                                        asrt ((S v1).1 = 11) <|
                                                                        bnd3 (f_GWL_follow g S R I L v1 (xs (Int32.toNatClampNeg x464))) fun x467 I468 L469 =>
                                                                        lt (v4 + 1) fun (x471 : Int32) =>
                                                                        asrt (vp_in x471 N) <|
                                                                        asrt ((S v2).1 = 12) <|
                                                                        bnd3 (f_Mod_follow g S R I468 L469 v2 (xs (Int32.toNatClampNeg x471))) fun x474 I475 L476 =>
                                                                        ifb (x467 = x474)
                                                                          (l_Law_law_23 N xs g S v0 v1 v2 v3 f I475 L476 R (v4 + 5))
                                                                          (some (0, I475, L476, R)))
                                                                        (ifb (x3 = 33)
                                                                          (asrt ((S v1).1 = 11) <|
                                                                          bnd3 (f_GWL_warned g S R I L v1) fun x480 I481 L482 =>
                                                                          asrt ((S v2).1 = 12) <|
                                                                          bnd3 (f_Mod_warned g S R I481 L482 v2) fun x485 I486 L487 =>
                                                                          ifb (x480 = x485)
                                                                            (l_Law_law_23 N xs g S v0 v1 v2 v3 f I486 L487 R (v4 + 5))
                                                                            (some (0, I486, L487, R)))
                                                                          (ifb (x3 = 34)
                                                                            (lt (v4 + 1) fun (x490 : Int32) =>
                                                                            asrt (vp_in x490 N) <|
                                                                            lt (v4 + 2) fun (x492 : Int32) =>
                                                                            asrt (vp_in x492 N) <|
                                                                            asrt ((S v1).1 = 11) <|
                                                                            bnd3 (f_GWL_codes g S R I L v1 (xs (Int32.toNatClampNeg x490)) (xs (Int32.toNatClampNeg x492))) fun x495 I496 L497 =>
                                                                            lt (v4 + 1) fun (x499 : Int32) =>
                                                                            asrt (vp_in x499 N) <|
                                                                            lt (v4 + 2) fun (x501 : Int32) =>
                                                                            asrt (vp_in x501 N) <|
                                                                            asrt ((S v2).1 = 12) <|
                                                                            bnd3 (f_Mod_codes g S R I496 L497 v2 (xs (Int32.toNatClampNeg x499)) (xs (Int32.toNatClampNeg x501))) fun x504 I505 L506 =>
                                                                            ifb (x495 = x504)
                                                                              (l_Law_law_23 N xs g S v0 v1 v2 v3 f I505 L506 R (v4 + 5))
                                                                              (some (0, I505, L506, R)))
                                                                            (ifb (x3 = 35)
                                                                              (lt (v4 + 1) fun (x509 : Int32) =>
                                                                              asrt (vp_in x509 N) <|
                                                                              lt (v4 + 2) fun (x511 : Int32) =>
                                                                              asrt (vp_in x511 N) <|
                                                                              lt (v4 + 3) fun (x513 : Int32) =>
                                                                              asrt (vp_in x513 N) <|
                                                                              lt (v4 + 4) fun (x515 : Int32) =>
                                                                              asrt (vp_in x515 N) <|
                                                                              asrt ((S v1).1 = 11) <|
                                                                              bnd1 (f_GWL_meant g v1 (xs (Int32.toNatClampNeg x509)) (xs (Int32.toNatClampNeg x511)) (xs (Int32.toNatClampNeg x513)) (xs (Int32.toNatClampNeg x515))) fun x518 =>
                                                                              lt (v4 + 1) fun (x520 : Int32) =>
                                                                              asrt (vp_in x520 N) <|
                                                                              lt (v4 + 2) fun (x522 : Int32) =>
                                                                              asrt (vp_in x522 N) <|
                                                                              lt (v4 + 3) fun (x524 : Int32) =>
                                                                              asrt (vp_in x524 N) <|
                                                                              lt (v4 + 4) fun (x526 : Int32) =>
                                                                              asrt (vp_in x526 N) <|
                                                                              asrt ((S v2).1 = 12) <|
                                                                              bnd2 (f_Mod_meant g S I v2 (xs (Int32.toNatClampNeg x520)) (xs (Int32.toNatClampNeg x522)) (xs (Int32.toNatClampNeg x524)) (xs (Int32.toNatClampNeg x526))) fun x529 I530 =>
                                                                              ifb (x518 = x529)
                                                                                (l_Law_law_23 N xs g S v0 v1 v2 v3 f I530 L R (v4 + 5))
                                                                                (some (0, I530, L, R)))
                                                                              (ifb (x3 = 36)
                                                                                (lt (v4 + 1) fun (x533 : Int32) =>
                                                                                asrt (vp_in x533 N) <|
                                                                                lt (v4 + 2) fun (x535 : Int32) =>
                                                                                asrt (vp_in x535 N) <|
                                                                                asrt ((S v1).1 = 11) <|
                                                                                bnd2 (f_GWL_print S R I v1 (xs (Int32.toNatClampNeg x533)) (xs (Int32.toNatClampNeg x535))) fun x538 I539 =>
                                                                                lt (v4 + 1) fun (x541 : Int32) =>
                                                                                asrt (vp_in x541 N) <|
                                                                                lt (v4 + 2) fun (x543 : Int32) =>
                                                                                asrt (vp_in x543 N) <|
                                                                                asrt ((S v2).1 = 12) <|
                                                                                bnd2 (f_Mod_print S R I539 v2 (xs (Int32.toNatClampNeg x541)) (xs (Int32.toNatClampNeg x543))) fun x546 I547 =>
                                                                                ifb (x538 = x546)
                                                                                  (l_Law_law_23 N xs g S v0 v1 v2 v3 f I547 L R (v4 + 5))
                                                                                  (some (0, I547, L, R)))
                                                                                (ifb (x3 = 37)
                                                                                  (asrt ((S v1).1 = 11) <|
                                                                                  bnd2 (f_GWL_wipe S R I v1) fun x551 I552 =>
                                                                                  asrt ((S v2).1 = 12) <|
                                                                                  bnd2 (f_Mod_wipe S I552 v2) fun x555 I556 =>
                                                                                  ifb (x551 = x555)
                                                                                    (l_Law_law_23 N xs g S v0 v1 v2 v3 f I556 L R (v4 + 5))
                                                                                    (some (0, I556, L, R)))
                                                                                  (ifb (x3 = 38)
                                                                                    (asrt ((S v1).1 = 11) <|
                                                                                    bnd3 (f_GWL_rows g S R I L v1) fun x560 I561 L562 =>
                                                                                    asrt ((S v2).1 = 12) <|
                                                                                    bnd3 (f_Mod_rows g S R I561 L562 v2) fun x565 I566 L567 =>
                                                                                    ifb ((lg_cmp x560 x565) = 0)
                                                                                      (l_Law_law_23 N xs g S v0 v1 v2 v3 f I566 L567 R (v4 + 5))
                                                                                      (some (0, I566, L567, R)))
                                                                                    (ifb (x3 = 39)
                                                                                      (asrt ((S v1).1 = 11) <|
                                                                                      bnd3 (f_GWL_lies g S R I L v1) fun x571 I572 L573 =>
                                                                                      asrt ((S v2).1 = 12) <|
                                                                                      bnd3 (f_Mod_lies g S R I572 L573 v2) fun x576 I577 L578 =>
                                                                                      ifb (x571 = x576)
                                                                                        (l_Law_law_23 N xs g S v0 v1 v2 v3 f I577 L578 R (v4 + 5))
                                                                                        (some (0, I577, L578, R)))
                                                                                      (ifb (x3 = 40)
                                                                                        (lt (v4 + 1) fun (x581 : Int32) =>
                                                                                        asrt (vp_in x581 N) <|
                                                                                        lt (v4 + 2) fun (x583 : Int32) =>
                                                                                        asrt (vp_in x583 N) <|
                                                                                        lt (v4 + 3) fun (x585 : Int32) =>
                                                                                        asrt (vp_in x585 N) <|
                                                                                        asrt ((S v1).1 = 11) <|
                                                                                        bnd2 (f_GWL_worth S R I v1 (xs (Int32.toNatClampNeg x581)) (xs (Int32.toNatClampNeg x583)) (xs (Int32.toNatClampNeg x585))) fun x588 I589 =>
                                                                                        lt (v4 + 1) fun (x591 : Int32) =>
                                                                                        asrt (vp_in x591 N) <|
                                                                                        lt (v4 + 2) fun (x593 : Int32) =>
                                                                                        asrt (vp_in x593 N) <|
                                                                                        lt (v4 + 3) fun (x595 : Int32) =>
                                                                                        asrt (vp_in x595 N) <|
                                                                                        asrt ((S v2).1 = 12) <|
                                                                                        bnd2 (f_Mod_worth S R I589 v2 (xs (Int32.toNatClampNeg x591)) (xs (Int32.toNatClampNeg x593)) (xs (Int32.toNatClampNeg x595))) fun x598 I599 =>
                                                                                        ifb (x588 = x598)
                                                                                          (l_Law_law_23 N xs g S v0 v1 v2 v3 f I599 L R (v4 + 5))
                                                                                          (some (0, I599, L, R)))
                                                                                        (ifb (x3 = 41)
                                                                                          (lt (v4 + 1) fun (x602 : Int32) =>
                                                                                          asrt (vp_in x602 N) <|
                                                                                          asrt ((S v1).1 = 11) <|
                                                                                          bnd3 (f_GWL_hire g S R I L v1 (xs (Int32.toNatClampNeg x602))) fun x605 I606 L607 =>
                                                                                          lt (v4 + 1) fun (x609 : Int32) =>
                                                                                          asrt (vp_in x609 N) <|
                                                                                          asrt ((S v2).1 = 12) <|
                                                                                          bnd3 (f_Mod_hire g S R I606 L607 v2 (xs (Int32.toNatClampNeg x609))) fun x612 I613 L614 =>
                                                                                          ifb (x605 = x612)
                                                                                            (l_Law_law_23 N xs g S v0 v1 v2 v3 f I613 L614 R (v4 + 5))
                                                                                            (some (0, I613, L614, R)))
                                                                                          (ifb (x3 = 42)
                                                                                            (lt (v4 + 1) fun (x617 : Int32) =>
                                                                                            asrt (vp_in x617 N) <|
                                                                                            lt (v4 + 2) fun (x619 : Int32) =>
                                                                                            asrt (vp_in x619 N) <|
                                                                                            asrt ((S v1).1 = 11) <|
                                                                                            bnd2 (f_GWL_hoarse g S R I v1 (xs (Int32.toNatClampNeg x617)) (xs (Int32.toNatClampNeg x619))) fun x622 I623 =>
                                                                                            lt (v4 + 1) fun (x625 : Int32) =>
                                                                                            asrt (vp_in x625 N) <|
                                                                                            lt (v4 + 2) fun (x627 : Int32) =>
                                                                                            asrt (vp_in x627 N) <|
                                                                                            asrt ((S v2).1 = 12) <|
                                                                                            bnd2 (f_Mod_hoarse g S R I623 v2 (xs (Int32.toNatClampNeg x625)) (xs (Int32.toNatClampNeg x627))) fun x630 I631 =>
                                                                                            ifb (x622 = x630)
                                                                                              (l_Law_law_23 N xs g S v0 v1 v2 v3 f I631 L R (v4 + 5))
                                                                                              (some (0, I631, L, R)))
                                                                                            (ifb (x3 = 43)
                                                                                              (lt (v4 + 1) fun (x634 : Int32) =>
                                                                                              asrt (vp_in x634 N) <|
                                                                                              asrt ((S v1).1 = 11) <|
                                                                                              bnd2 (f_GWL_seed S R I v1 (xs (Int32.toNatClampNeg x634))) fun x637 I638 =>
                                                                                              lt (v4 + 1) fun (x640 : Int32) =>
                                                                                              asrt (vp_in x640 N) <|
                                                                                              asrt ((S v2).1 = 12) <|
                                                                                              bnd2 (f_Mod_seed S I638 v2 (xs (Int32.toNatClampNeg x640))) fun x643 I644 =>
                                                                                              ifb (x637 = x643)
                                                                                                (l_Law_law_23 N xs g S v0 v1 v2 v3 f I644 L R (v4 + 5))
                                                                                                (some (0, I644, L, R)))
                                                                                              (ifb (x3 = 44)
                                                                                                (lt (v4 + 1) fun (x647 : Int32) =>
                                                                                                asrt (vp_in x647 N) <|
                                                                                                asrt ((S v1).1 = 11) <|
                                                                                                bnd2 (f_GWL_keep S R I v1 (xs (Int32.toNatClampNeg x647))) fun x650 I651 =>
                                                                                                lt (v4 + 1) fun (x653 : Int32) =>
                                                                                                asrt (vp_in x653 N) <|
                                                                                                asrt ((S v2).1 = 12) <|
                                                                                                bnd2 (f_Mod_keep g S R I651 v2 (xs (Int32.toNatClampNeg x653))) fun x656 I657 =>
                                                                                                ifb (x650 = x656)
                                                                                                  (l_Law_law_23 N xs g S v0 v1 v2 v3 f I657 L R (v4 + 5))
                                                                                                  (some (0, I657, L, R)))
                                                                                                (ifb (x3 = 45)
                                                                                                  (lt (v4 + 1) fun (x660 : Int32) =>
                                                                                                  asrt (vp_in x660 N) <|
                                                                                                  asrt ((S v1).1 = 11) <|
                                                                                                  bnd2 (f_GWL_again S R I v1 (xs (Int32.toNatClampNeg x660))) fun x663 I664 =>
                                                                                                  lt (v4 + 1) fun (x666 : Int32) =>
                                                                                                  asrt (vp_in x666 N) <|
                                                                                                  asrt ((S v2).1 = 12) <|
                                                                                                  bnd2 (f_Mod_again g S R I664 v2 (xs (Int32.toNatClampNeg x666))) fun x669 I670 =>
                                                                                                  ifb (x663 = x669)
                                                                                                    (l_Law_law_23 N xs g S v0 v1 v2 v3 f I670 L R (v4 + 5))
                                                                                                    (some (0, I670, L, R)))
                                                                                                  (ifb (x3 = 46)
                                                                                                    (lt (v4 + 1) fun (x673 : Int32) =>
                                                                                                    asrt (vp_in x673 N) <|
                                                                                                    asrt ((S v1).1 = 11) <|
                                                                                                    bnd1 (f_GWL_count S R I v1 (xs (Int32.toNatClampNeg x673))) fun x676 =>
                                                                                                    lt (v4 + 1) fun (x678 : Int32) =>
                                                                                                    asrt (vp_in x678 N) <|
                                                                                                    asrt ((S v2).1 = 12) <|
                                                                                                    bnd2 (f_Mod_count S R I v2 (xs (Int32.toNatClampNeg x678))) fun x681 I682 =>
                                                                                                    ifb (x676 = x681)
                                                                                                      (l_Law_law_23 N xs g S v0 v1 v2 v3 f I682 L R (v4 + 5))
                                                                                                      (some (0, I682, L, R)))
                                                                                                    (ifb (x3 = 47)
                                                                                                      (lt (v4 + 1) fun (x685 : Int32) =>
                                                                                                      asrt (vp_in x685 N) <|
                                                                                                      bnd2 (f_Law_row S R I L v1 (xs (Int32.toNatClampNeg x685)) v3) fun x687 L688 =>
                                                                                                      lt (v4 + 1) fun (x690 : Int32) =>
                                                                                                      asrt (vp_in x690 N) <|
                                                                                                      asrt ((S v2).1 = 12) <|
                                                                                                      bnd2 (f_Mod_row S R I L688 v2 (xs (Int32.toNatClampNeg x690))) fun x693 I694 =>
                                                                                                      bnd1 (f_Mod_thrown S I694 v2) fun x696 =>
                                                                                                      ifb (x696 = x687)
                                                                                                        (ifb (x687 = 0)
                                                                                                          (asrt ((S v3).1 = 21) <|
                                                                                                          asrt (vp_in 0 (S v3).2) <|
                                                                                                          ifb ((lg_cmp (L688 v3 (Int32.toNatClampNeg 0)) x693) = 0)
                                                                                                            (l_Law_law_23 N xs g S v0 v1 v2 v3 f I694 L688 R (v4 + 5))
                                                                                                            (some (0, I694, L688, R)))
                                                                                                          (l_Law_law_23 N xs g S v0 v1 v2 v3 f I694 L688 R (v4 + 5)))
                                                                                                        (some (0, I694, L688, R)))
                                                                                                      (l_Law_law_23 N xs g S v0 v1 v2 v3 f I L R (v4 + 5))))))))))))))))))))))))))))))))))))))))))))))))))
set_option maxRecDepth 100000 in
set_option maxHeartbeats 4000000 in
theorem xl_Law_law_23 {E : Env} (hE : OKE E) {d : Nat} {N : Nat} {xs : Nat → Int32} (hX : SCR E N xs) (hd : 204 ≤ d) {g : Nat} {S : MS} {n : Nat} {v0 : Nat} {v1 : Nat} {v2 : Nat} {v3 : Nat} :
    ∀ {f : Nat} {I : MI} {L : ML} {R : MR} {v4 : Int32} {v : Int32} {I' : MI} {L' : ML} {R' : MR}, l_Law_law_23 N xs g S v0 v1 v2 v3 f I L R v4 = some (v, I', L', R') → X E y_Law_law b_Law_law 8 (some .boolean) false d f (f * 6) 23 [some (.ref (E.2.2.2 9)), some (.ref (e_b E + v1)), some (.ref (e_b E + v2)), some (.ref (e_b E + v3)), some (.int v4), none, none, none] [] S I L R n (Kq (some (.int v)) S I' L' R' n) := by
  intro f
  induction f with
  | zero =>
    intro I L R v4 v I' L' R' h
    rw [l_Law_law_23] at h
    cases h
  | succ f ih =>
    intro I L R v4 v I' L' R' h
    rw [l_Law_law_23] at h
    refine X.iload_4 (pc := 23) (by decide +kernel) ?_
    refine X.aload_0 (pc := 25) (by decide +kernel) ?_
    refine X.slen (pc := 26) hX (by decide +kernel) ?_
    refine X.iconst (pc := 27) (i := 5) (v := 5) ic_5 (by decide +kernel) ?_
    refine X.isub (pc := 28) (by decide +kernel) ?_
    rcases ifb_some h with ⟨hq1, h⟩ | ⟨hq1, h⟩
    · refine X.icmp_gt_t (pc := 29) (off := 1512) (tgt := 1541) hq1 rfl (by decide +kernel) ?_
      refine X.iconst (pc := 1541) (i := 1) (v := 1) ic_1 (by decide +kernel) ?_
      have j0 := Option.some.inj h
      obtain ⟨i0, j1⟩ := Prod.mk.inj j0
      obtain ⟨i1, j2⟩ := Prod.mk.inj j1
      obtain ⟨i2, j3⟩ := Prod.mk.inj j2
      subst i0
      subst i1
      subst i2
      subst j3
      exact X.ireturn (pc := 1542) (by decide +kernel) ⟨_, rfl, nz01 (Or.inr rfl)⟩ ⟨rfl, rfl, rfl, rfl, rfl, rfl⟩
    · refine X.icmp_gt_f (pc := 29) (off := 1512) (tgt := 1541) hq1 rfl (by decide +kernel) ?_
      refine X.aload_0 (pc := 32) (by decide +kernel) ?_
      refine X.iload_4 (pc := 33) (by decide +kernel) ?_
      obtain ⟨hi2, h⟩ := asrt_some h
      refine X.sld (pc := 35) hX (by decide +kernel) hi2 ?_
      refine X.bipush (pc := 36) (i := 63) (v := 63) bp_63 (by decide +kernel) ?_
      refine X.iand (pc := 38) (by decide +kernel) ?_
      refine X.nameI (fun x3 hx3 => ?_)
      have h := lt_at hx3 h
      rcases ifb_some h with ⟨hq4_0, h⟩ | ⟨hq4_0, h⟩
      · refine X.tabIn (pc := 39) (dflt := 1496) (lo := 0) (hi := 47) (offs := #[205, 230, 255, 268, 281, 306, 343, 380, 417, 454, 515, 540, 553, 578, 591, 604, 617, 630, 655, 680, 717, 742, 767, 792, 829, 866, 879, 904, 929, 954, 979, 1004, 1017, 1042, 1055, 1092, 1153, 1190, 1203, 1217, 1230, 1279, 1304, 1341, 1366, 1391, 1416, 1441]) (len := 205) (off := 205) (tgt := 244) (by decide +kernel) (by rw [hq4_0]; decide +kernel) (by rw [hq4_0]; decide +kernel) (by rw [hq4_0]; decide +kernel) rfl ?_
        refine X.aload_1 (pc := 244) (by decide +kernel) ?_
        refine X.aload_0 (pc := 245) (by decide +kernel) ?_
        refine X.iload_4 (pc := 246) (by decide +kernel) ?_
        refine X.iconst (pc := 248) (i := 1) (v := 1) ic_1 (by decide +kernel) ?_
        refine X.iadd (pc := 249) (by decide +kernel) ?_
        refine X.nameI (fun x5 hx5 => ?_)
        have h := lt_at hx5 h
        obtain ⟨hi6, h⟩ := asrt_some h
        refine X.sld (pc := 250) hX (by decide +kernel) hi6 ?_
        obtain ⟨hc7, h⟩ := asrt_some h
        obtain ⟨x8, I9, hv10, h⟩ := bnd2_some h
        refine X.callVi (pc := 251)  (c_GWL_sign hE (dle hd (Nat.le_of_ble_eq_true rfl)) hc7 hv10) cv_Law_19 (by decide +kernel) hc7 ⟨by decide, rfl⟩ (ddd hd (Nat.le_of_ble_eq_true rfl)) rfl (Nat.le_of_ble_eq_true rfl) (Nat.zero_add _).symm (Nat.zero_add _).symm ?_
        refine X.aload_2 (pc := 254) (by decide +kernel) ?_
        refine X.aload_0 (pc := 255) (by decide +kernel) ?_
        refine X.iload_4 (pc := 256) (by decide +kernel) ?_
        refine X.iconst (pc := 258) (i := 1) (v := 1) ic_1 (by decide +kernel) ?_
        refine X.iadd (pc := 259) (by decide +kernel) ?_
        refine X.nameI (fun x11 hx11 => ?_)
        have h := lt_at hx11 h
        obtain ⟨hi12, h⟩ := asrt_some h
        refine X.sld (pc := 260) hX (by decide +kernel) hi12 ?_
        obtain ⟨hc13, h⟩ := asrt_some h
        obtain ⟨x14, I15, hv16, h⟩ := bnd2_some h
        refine X.callVi (pc := 261)  (c_Mod_sign hE (dle hd (Nat.le_of_ble_eq_true rfl)) hc13 hv16) cv_Law_23 (by decide +kernel) hc13 ⟨by decide, rfl⟩ (ddd hd (Nat.le_of_ble_eq_true rfl)) rfl (Nat.le_of_ble_eq_true rfl) (Nat.zero_add _).symm (Nat.zero_add _).symm ?_
        rcases ifb_some h with ⟨hq17, h⟩ | ⟨hq17, h⟩
        · refine X.icmp_eq_t (pc := 264) (off := 1271) (tgt := 1535) hq17 rfl (by decide +kernel) ?_
          refine X.iinc_4 (pc := 1535) (z := 5) (v := 5) ic_5 (by decide +kernel) (by decide) rfl ?_
          refine X.goto (pc := 1538) (off := (-1515)) (tgt := 23) (by decide +kernel) rfl ?_
          refine X.widen (nc' := f) (ns' := f * 6) (by omega) (by omega) ?_
          exact ih h
        · refine X.icmp_eq_f (pc := 264) (off := 1271) (tgt := 1535) hq17 rfl (by decide +kernel) ?_
          refine X.iconst (pc := 267) (i := 0) (v := 0) ic_0 (by decide +kernel) ?_
          have j0 := Option.some.inj h
          obtain ⟨i0, j1⟩ := Prod.mk.inj j0
          obtain ⟨i1, j2⟩ := Prod.mk.inj j1
          obtain ⟨i2, j3⟩ := Prod.mk.inj j2
          subst i0
          subst i1
          subst i2
          subst j3
          exact X.ireturn (pc := 268) (by decide +kernel) ⟨_, rfl, nz01 (Or.inl rfl)⟩ ⟨rfl, rfl, rfl, rfl, rfl, rfl⟩
      · rcases ifb_some h with ⟨hq4_1, h⟩ | ⟨hq4_1, h⟩
        · refine X.tabIn (pc := 39) (dflt := 1496) (lo := 0) (hi := 47) (offs := #[205, 230, 255, 268, 281, 306, 343, 380, 417, 454, 515, 540, 553, 578, 591, 604, 617, 630, 655, 680, 717, 742, 767, 792, 829, 866, 879, 904, 929, 954, 979, 1004, 1017, 1042, 1055, 1092, 1153, 1190, 1203, 1217, 1230, 1279, 1304, 1341, 1366, 1391, 1416, 1441]) (len := 205) (off := 230) (tgt := 269) (by decide +kernel) (by rw [hq4_1]; decide +kernel) (by rw [hq4_1]; decide +kernel) (by rw [hq4_1]; decide +kernel) rfl ?_
          refine X.aload_1 (pc := 269) (by decide +kernel) ?_
          refine X.aload_0 (pc := 270) (by decide +kernel) ?_
          refine X.iload_4 (pc := 271) (by decide +kernel) ?_
          refine X.iconst (pc := 273) (i := 1) (v := 1) ic_1 (by decide +kernel) ?_
          refine X.iadd (pc := 274) (by decide +kernel) ?_
          refine X.nameI (fun x18 hx18 => ?_)
          have h := lt_at hx18 h
          obtain ⟨hi19, h⟩ := asrt_some h
          refine X.sld (pc := 275) hX (by decide +kernel) hi19 ?_
          obtain ⟨hc20, h⟩ := asrt_some h
          obtain ⟨x21, I22, hv23, h⟩ := bnd2_some h
          refine X.callVi (pc := 276)  (c_GWL_end hE (dle hd (Nat.le_of_ble_eq_true rfl)) hc20 hv23) cv_Law_24 (by decide +kernel) hc20 ⟨by decide, rfl⟩ (ddd hd (Nat.le_of_ble_eq_true rfl)) rfl (Nat.le_of_ble_eq_true rfl) (Nat.zero_add _).symm (Nat.zero_add _).symm ?_
          refine X.aload_2 (pc := 279) (by decide +kernel) ?_
          refine X.aload_0 (pc := 280) (by decide +kernel) ?_
          refine X.iload_4 (pc := 281) (by decide +kernel) ?_
          refine X.iconst (pc := 283) (i := 1) (v := 1) ic_1 (by decide +kernel) ?_
          refine X.iadd (pc := 284) (by decide +kernel) ?_
          refine X.nameI (fun x24 hx24 => ?_)
          have h := lt_at hx24 h
          obtain ⟨hi25, h⟩ := asrt_some h
          refine X.sld (pc := 285) hX (by decide +kernel) hi25 ?_
          obtain ⟨hc26, h⟩ := asrt_some h
          obtain ⟨x27, I28, hv29, h⟩ := bnd2_some h
          refine X.callVi (pc := 286)  (c_Mod_end hE (dle hd (Nat.le_of_ble_eq_true rfl)) hc26 hv29) cv_Law_28 (by decide +kernel) hc26 ⟨by decide, rfl⟩ (ddd hd (Nat.le_of_ble_eq_true rfl)) rfl (Nat.le_of_ble_eq_true rfl) (Nat.zero_add _).symm (Nat.zero_add _).symm ?_
          rcases ifb_some h with ⟨hq30, h⟩ | ⟨hq30, h⟩
          · refine X.icmp_eq_t (pc := 289) (off := 1246) (tgt := 1535) hq30 rfl (by decide +kernel) ?_
            refine X.iinc_4 (pc := 1535) (z := 5) (v := 5) ic_5 (by decide +kernel) (by decide) rfl ?_
            refine X.goto (pc := 1538) (off := (-1515)) (tgt := 23) (by decide +kernel) rfl ?_
            refine X.widen (nc' := f) (ns' := f * 6) (by omega) (by omega) ?_
            exact ih h
          · refine X.icmp_eq_f (pc := 289) (off := 1246) (tgt := 1535) hq30 rfl (by decide +kernel) ?_
            refine X.iconst (pc := 292) (i := 0) (v := 0) ic_0 (by decide +kernel) ?_
            have j0 := Option.some.inj h
            obtain ⟨i0, j1⟩ := Prod.mk.inj j0
            obtain ⟨i1, j2⟩ := Prod.mk.inj j1
            obtain ⟨i2, j3⟩ := Prod.mk.inj j2
            subst i0
            subst i1
            subst i2
            subst j3
            exact X.ireturn (pc := 293) (by decide +kernel) ⟨_, rfl, nz01 (Or.inl rfl)⟩ ⟨rfl, rfl, rfl, rfl, rfl, rfl⟩
        · rcases ifb_some h with ⟨hq4_2, h⟩ | ⟨hq4_2, h⟩
          · refine X.tabIn (pc := 39) (dflt := 1496) (lo := 0) (hi := 47) (offs := #[205, 230, 255, 268, 281, 306, 343, 380, 417, 454, 515, 540, 553, 578, 591, 604, 617, 630, 655, 680, 717, 742, 767, 792, 829, 866, 879, 904, 929, 954, 979, 1004, 1017, 1042, 1055, 1092, 1153, 1190, 1203, 1217, 1230, 1279, 1304, 1341, 1366, 1391, 1416, 1441]) (len := 205) (off := 255) (tgt := 294) (by decide +kernel) (by rw [hq4_2]; decide +kernel) (by rw [hq4_2]; decide +kernel) (by rw [hq4_2]; decide +kernel) rfl ?_
            refine X.aload_1 (pc := 294) (by decide +kernel) ?_
            obtain ⟨hc31, h⟩ := asrt_some h
            obtain ⟨x32, I33, hv34, h⟩ := bnd2_some h
            refine X.callVi (pc := 295)  (c_GWL_moor hE (dle hd (Nat.le_of_ble_eq_true rfl)) hc31 hv34) cv_Law_29 (by decide +kernel) hc31 ⟨by decide, rfl⟩ (ddd hd (Nat.le_of_ble_eq_true rfl)) rfl (Nat.le_of_ble_eq_true rfl) (Nat.zero_add _).symm (Nat.zero_add _).symm ?_
            refine X.aload_2 (pc := 298) (by decide +kernel) ?_
            obtain ⟨hc35, h⟩ := asrt_some h
            obtain ⟨x36, I37, hv38, h⟩ := bnd2_some h
            refine X.callVi (pc := 299)  (c_Mod_moor hE (dle hd (Nat.le_of_ble_eq_true rfl)) hc35 hv38) cv_Law_33 (by decide +kernel) hc35 ⟨by decide, rfl⟩ (ddd hd (Nat.le_of_ble_eq_true rfl)) rfl (Nat.le_of_ble_eq_true rfl) (Nat.zero_add _).symm (Nat.zero_add _).symm ?_
            rcases ifb_some h with ⟨hq39, h⟩ | ⟨hq39, h⟩
            · refine X.icmp_eq_t (pc := 302) (off := 1233) (tgt := 1535) hq39 rfl (by decide +kernel) ?_
              refine X.iinc_4 (pc := 1535) (z := 5) (v := 5) ic_5 (by decide +kernel) (by decide) rfl ?_
              refine X.goto (pc := 1538) (off := (-1515)) (tgt := 23) (by decide +kernel) rfl ?_
              refine X.widen (nc' := f) (ns' := f * 6) (by omega) (by omega) ?_
              exact ih h
            · refine X.icmp_eq_f (pc := 302) (off := 1233) (tgt := 1535) hq39 rfl (by decide +kernel) ?_
              refine X.iconst (pc := 305) (i := 0) (v := 0) ic_0 (by decide +kernel) ?_
              have j0 := Option.some.inj h
              obtain ⟨i0, j1⟩ := Prod.mk.inj j0
              obtain ⟨i1, j2⟩ := Prod.mk.inj j1
              obtain ⟨i2, j3⟩ := Prod.mk.inj j2
              subst i0
              subst i1
              subst i2
              subst j3
              exact X.ireturn (pc := 306) (by decide +kernel) ⟨_, rfl, nz01 (Or.inl rfl)⟩ ⟨rfl, rfl, rfl, rfl, rfl, rfl⟩
          · rcases ifb_some h with ⟨hq4_3, h⟩ | ⟨hq4_3, h⟩
            · refine X.tabIn (pc := 39) (dflt := 1496) (lo := 0) (hi := 47) (offs := #[205, 230, 255, 268, 281, 306, 343, 380, 417, 454, 515, 540, 553, 578, 591, 604, 617, 630, 655, 680, 717, 742, 767, 792, 829, 866, 879, 904, 929, 954, 979, 1004, 1017, 1042, 1055, 1092, 1153, 1190, 1203, 1217, 1230, 1279, 1304, 1341, 1366, 1391, 1416, 1441]) (len := 205) (off := 268) (tgt := 307) (by decide +kernel) (by rw [hq4_3]; decide +kernel) (by rw [hq4_3]; decide +kernel) (by rw [hq4_3]; decide +kernel) rfl ?_
              refine X.aload_1 (pc := 307) (by decide +kernel) ?_
              obtain ⟨hc40, h⟩ := asrt_some h
              obtain ⟨x41, I42, hv43, h⟩ := bnd2_some h
              refine X.callVi (pc := 308)  (c_GWL_fee hE (dle hd (Nat.le_of_ble_eq_true rfl)) hc40 hv43) cv_Law_34 (by decide +kernel) hc40 ⟨by decide, rfl⟩ (ddd hd (Nat.le_of_ble_eq_true rfl)) rfl (Nat.le_of_ble_eq_true rfl) (Nat.zero_add _).symm (Nat.zero_add _).symm ?_
              refine X.aload_2 (pc := 311) (by decide +kernel) ?_
              obtain ⟨hc44, h⟩ := asrt_some h
              obtain ⟨x45, I46, hv47, h⟩ := bnd2_some h
              refine X.callVi (pc := 312)  (c_Mod_fee hE (dle hd (Nat.le_of_ble_eq_true rfl)) hc44 hv47) cv_Law_37 (by decide +kernel) hc44 ⟨by decide, rfl⟩ (ddd hd (Nat.le_of_ble_eq_true rfl)) rfl (Nat.le_of_ble_eq_true rfl) (Nat.zero_add _).symm (Nat.zero_add _).symm ?_
              rcases ifb_some h with ⟨hq48, h⟩ | ⟨hq48, h⟩
              · refine X.icmp_eq_t (pc := 315) (off := 1220) (tgt := 1535) hq48 rfl (by decide +kernel) ?_
                refine X.iinc_4 (pc := 1535) (z := 5) (v := 5) ic_5 (by decide +kernel) (by decide) rfl ?_
                refine X.goto (pc := 1538) (off := (-1515)) (tgt := 23) (by decide +kernel) rfl ?_
                refine X.widen (nc' := f) (ns' := f * 6) (by omega) (by omega) ?_
                exact ih h
              · refine X.icmp_eq_f (pc := 315) (off := 1220) (tgt := 1535) hq48 rfl (by decide +kernel) ?_
                refine X.iconst (pc := 318) (i := 0) (v := 0) ic_0 (by decide +kernel) ?_
                have j0 := Option.some.inj h
                obtain ⟨i0, j1⟩ := Prod.mk.inj j0
                obtain ⟨i1, j2⟩ := Prod.mk.inj j1
                obtain ⟨i2, j3⟩ := Prod.mk.inj j2
                subst i0
                subst i1
                subst i2
                subst j3
                exact X.ireturn (pc := 319) (by decide +kernel) ⟨_, rfl, nz01 (Or.inl rfl)⟩ ⟨rfl, rfl, rfl, rfl, rfl, rfl⟩
            · rcases ifb_some h with ⟨hq4_4, h⟩ | ⟨hq4_4, h⟩
              · refine X.tabIn (pc := 39) (dflt := 1496) (lo := 0) (hi := 47) (offs := #[205, 230, 255, 268, 281, 306, 343, 380, 417, 454, 515, 540, 553, 578, 591, 604, 617, 630, 655, 680, 717, 742, 767, 792, 829, 866, 879, 904, 929, 954, 979, 1004, 1017, 1042, 1055, 1092, 1153, 1190, 1203, 1217, 1230, 1279, 1304, 1341, 1366, 1391, 1416, 1441]) (len := 205) (off := 281) (tgt := 320) (by decide +kernel) (by rw [hq4_4]; decide +kernel) (by rw [hq4_4]; decide +kernel) (by rw [hq4_4]; decide +kernel) rfl ?_
                refine X.aload_1 (pc := 320) (by decide +kernel) ?_
                refine X.aload_0 (pc := 321) (by decide +kernel) ?_
                refine X.iload_4 (pc := 322) (by decide +kernel) ?_
                refine X.iconst (pc := 324) (i := 1) (v := 1) ic_1 (by decide +kernel) ?_
                refine X.iadd (pc := 325) (by decide +kernel) ?_
                refine X.nameI (fun x49 hx49 => ?_)
                have h := lt_at hx49 h
                obtain ⟨hi50, h⟩ := asrt_some h
                refine X.sld (pc := 326) hX (by decide +kernel) hi50 ?_
                obtain ⟨hc51, h⟩ := asrt_some h
                obtain ⟨x52, hv53, h⟩ := bnd1_some h
                refine X.callVi (pc := 327)  (c_GWL_cell hE (dle hd (Nat.le_of_ble_eq_true rfl)) hc51 hv53) cv_Law_38 (by decide +kernel) hc51 ⟨by decide, rfl⟩ (ddd hd (Nat.le_of_ble_eq_true rfl)) rfl (Nat.le_of_ble_eq_true rfl) (Nat.zero_add _).symm (Nat.zero_add _).symm ?_
                refine X.aload_2 (pc := 330) (by decide +kernel) ?_
                refine X.aload_0 (pc := 331) (by decide +kernel) ?_
                refine X.iload_4 (pc := 332) (by decide +kernel) ?_
                refine X.iconst (pc := 334) (i := 1) (v := 1) ic_1 (by decide +kernel) ?_
                refine X.iadd (pc := 335) (by decide +kernel) ?_
                refine X.nameI (fun x54 hx54 => ?_)
                have h := lt_at hx54 h
                obtain ⟨hi55, h⟩ := asrt_some h
                refine X.sld (pc := 336) hX (by decide +kernel) hi55 ?_
                obtain ⟨hc56, h⟩ := asrt_some h
                obtain ⟨x57, I58, hv59, h⟩ := bnd2_some h
                refine X.callVi (pc := 337)  (c_Mod_cell hE (dle hd (Nat.le_of_ble_eq_true rfl)) hc56 hv59) cv_Law_41 (by decide +kernel) hc56 ⟨by decide, rfl⟩ (ddd hd (Nat.le_of_ble_eq_true rfl)) rfl (Nat.le_of_ble_eq_true rfl) (Nat.zero_add _).symm (Nat.zero_add _).symm ?_
                rcases ifb_some h with ⟨hq60, h⟩ | ⟨hq60, h⟩
                · refine X.icmp_eq_t (pc := 340) (off := 1195) (tgt := 1535) hq60 rfl (by decide +kernel) ?_
                  refine X.iinc_4 (pc := 1535) (z := 5) (v := 5) ic_5 (by decide +kernel) (by decide) rfl ?_
                  refine X.goto (pc := 1538) (off := (-1515)) (tgt := 23) (by decide +kernel) rfl ?_
                  refine X.widen (nc' := f) (ns' := f * 6) (by omega) (by omega) ?_
                  exact ih h
                · refine X.icmp_eq_f (pc := 340) (off := 1195) (tgt := 1535) hq60 rfl (by decide +kernel) ?_
                  refine X.iconst (pc := 343) (i := 0) (v := 0) ic_0 (by decide +kernel) ?_
                  have j0 := Option.some.inj h
                  obtain ⟨i0, j1⟩ := Prod.mk.inj j0
                  obtain ⟨i1, j2⟩ := Prod.mk.inj j1
                  obtain ⟨i2, j3⟩ := Prod.mk.inj j2
                  subst i0
                  subst i1
                  subst i2
                  subst j3
                  exact X.ireturn (pc := 344) (by decide +kernel) ⟨_, rfl, nz01 (Or.inl rfl)⟩ ⟨rfl, rfl, rfl, rfl, rfl, rfl⟩
              · rcases ifb_some h with ⟨hq4_5, h⟩ | ⟨hq4_5, h⟩
                · refine X.tabIn (pc := 39) (dflt := 1496) (lo := 0) (hi := 47) (offs := #[205, 230, 255, 268, 281, 306, 343, 380, 417, 454, 515, 540, 553, 578, 591, 604, 617, 630, 655, 680, 717, 742, 767, 792, 829, 866, 879, 904, 929, 954, 979, 1004, 1017, 1042, 1055, 1092, 1153, 1190, 1203, 1217, 1230, 1279, 1304, 1341, 1366, 1391, 1416, 1441]) (len := 205) (off := 306) (tgt := 345) (by decide +kernel) (by rw [hq4_5]; decide +kernel) (by rw [hq4_5]; decide +kernel) (by rw [hq4_5]; decide +kernel) rfl ?_
                  refine X.aload_1 (pc := 345) (by decide +kernel) ?_
                  refine X.aload_0 (pc := 346) (by decide +kernel) ?_
                  refine X.iload_4 (pc := 347) (by decide +kernel) ?_
                  refine X.iconst (pc := 349) (i := 1) (v := 1) ic_1 (by decide +kernel) ?_
                  refine X.iadd (pc := 350) (by decide +kernel) ?_
                  refine X.nameI (fun x61 hx61 => ?_)
                  have h := lt_at hx61 h
                  obtain ⟨hi62, h⟩ := asrt_some h
                  refine X.sld (pc := 351) hX (by decide +kernel) hi62 ?_
                  refine X.aload_0 (pc := 352) (by decide +kernel) ?_
                  refine X.iload_4 (pc := 353) (by decide +kernel) ?_
                  refine X.iconst (pc := 355) (i := 2) (v := 2) ic_2 (by decide +kernel) ?_
                  refine X.iadd (pc := 356) (by decide +kernel) ?_
                  refine X.nameI (fun x63 hx63 => ?_)
                  have h := lt_at hx63 h
                  obtain ⟨hi64, h⟩ := asrt_some h
                  refine X.sld (pc := 357) hX (by decide +kernel) hi64 ?_
                  obtain ⟨hc65, h⟩ := asrt_some h
                  obtain ⟨x66, I67, hv68, h⟩ := bnd2_some h
                  refine X.callVi (pc := 358)  (c_GWL_put hE (dle hd (Nat.le_of_ble_eq_true rfl)) hc65 hv68) cv_Law_42 (by decide +kernel) hc65 ⟨by decide, rfl⟩ (ddd hd (Nat.le_of_ble_eq_true rfl)) rfl (Nat.le_of_ble_eq_true rfl) (Nat.zero_add _).symm (Nat.zero_add _).symm ?_
                  refine X.aload_2 (pc := 361) (by decide +kernel) ?_
                  refine X.aload_0 (pc := 362) (by decide +kernel) ?_
                  refine X.iload_4 (pc := 363) (by decide +kernel) ?_
                  refine X.iconst (pc := 365) (i := 1) (v := 1) ic_1 (by decide +kernel) ?_
                  refine X.iadd (pc := 366) (by decide +kernel) ?_
                  refine X.nameI (fun x69 hx69 => ?_)
                  have h := lt_at hx69 h
                  obtain ⟨hi70, h⟩ := asrt_some h
                  refine X.sld (pc := 367) hX (by decide +kernel) hi70 ?_
                  refine X.aload_0 (pc := 368) (by decide +kernel) ?_
                  refine X.iload_4 (pc := 369) (by decide +kernel) ?_
                  refine X.iconst (pc := 371) (i := 2) (v := 2) ic_2 (by decide +kernel) ?_
                  refine X.iadd (pc := 372) (by decide +kernel) ?_
                  refine X.nameI (fun x71 hx71 => ?_)
                  have h := lt_at hx71 h
                  obtain ⟨hi72, h⟩ := asrt_some h
                  refine X.sld (pc := 373) hX (by decide +kernel) hi72 ?_
                  obtain ⟨hc73, h⟩ := asrt_some h
                  obtain ⟨x74, I75, hv76, h⟩ := bnd2_some h
                  refine X.callVi (pc := 374)  (c_Mod_put hE (dle hd (Nat.le_of_ble_eq_true rfl)) hc73 hv76) cv_Law_46 (by decide +kernel) hc73 ⟨by decide, rfl⟩ (ddd hd (Nat.le_of_ble_eq_true rfl)) rfl (Nat.le_of_ble_eq_true rfl) (Nat.zero_add _).symm (Nat.zero_add _).symm ?_
                  rcases ifb_some h with ⟨hq77, h⟩ | ⟨hq77, h⟩
                  · refine X.icmp_eq_t (pc := 377) (off := 1158) (tgt := 1535) hq77 rfl (by decide +kernel) ?_
                    refine X.iinc_4 (pc := 1535) (z := 5) (v := 5) ic_5 (by decide +kernel) (by decide) rfl ?_
                    refine X.goto (pc := 1538) (off := (-1515)) (tgt := 23) (by decide +kernel) rfl ?_
                    refine X.widen (nc' := f) (ns' := f * 6) (by omega) (by omega) ?_
                    exact ih h
                  · refine X.icmp_eq_f (pc := 377) (off := 1158) (tgt := 1535) hq77 rfl (by decide +kernel) ?_
                    refine X.iconst (pc := 380) (i := 0) (v := 0) ic_0 (by decide +kernel) ?_
                    have j0 := Option.some.inj h
                    obtain ⟨i0, j1⟩ := Prod.mk.inj j0
                    obtain ⟨i1, j2⟩ := Prod.mk.inj j1
                    obtain ⟨i2, j3⟩ := Prod.mk.inj j2
                    subst i0
                    subst i1
                    subst i2
                    subst j3
                    exact X.ireturn (pc := 381) (by decide +kernel) ⟨_, rfl, nz01 (Or.inl rfl)⟩ ⟨rfl, rfl, rfl, rfl, rfl, rfl⟩
                · rcases ifb_some h with ⟨hq4_6, h⟩ | ⟨hq4_6, h⟩
                  · refine X.tabIn (pc := 39) (dflt := 1496) (lo := 0) (hi := 47) (offs := #[205, 230, 255, 268, 281, 306, 343, 380, 417, 454, 515, 540, 553, 578, 591, 604, 617, 630, 655, 680, 717, 742, 767, 792, 829, 866, 879, 904, 929, 954, 979, 1004, 1017, 1042, 1055, 1092, 1153, 1190, 1203, 1217, 1230, 1279, 1304, 1341, 1366, 1391, 1416, 1441]) (len := 205) (off := 343) (tgt := 382) (by decide +kernel) (by rw [hq4_6]; decide +kernel) (by rw [hq4_6]; decide +kernel) (by rw [hq4_6]; decide +kernel) rfl ?_
                    refine X.aload_1 (pc := 382) (by decide +kernel) ?_
                    refine X.aload_0 (pc := 383) (by decide +kernel) ?_
                    refine X.iload_4 (pc := 384) (by decide +kernel) ?_
                    refine X.iconst (pc := 386) (i := 1) (v := 1) ic_1 (by decide +kernel) ?_
                    refine X.iadd (pc := 387) (by decide +kernel) ?_
                    refine X.nameI (fun x78 hx78 => ?_)
                    have h := lt_at hx78 h
                    obtain ⟨hi79, h⟩ := asrt_some h
                    refine X.sld (pc := 388) hX (by decide +kernel) hi79 ?_
                    refine X.aload_0 (pc := 389) (by decide +kernel) ?_
                    refine X.iload_4 (pc := 390) (by decide +kernel) ?_
                    refine X.iconst (pc := 392) (i := 2) (v := 2) ic_2 (by decide +kernel) ?_
                    refine X.iadd (pc := 393) (by decide +kernel) ?_
                    refine X.nameI (fun x80 hx80 => ?_)
                    have h := lt_at hx80 h
                    obtain ⟨hi81, h⟩ := asrt_some h
                    refine X.sld (pc := 394) hX (by decide +kernel) hi81 ?_
                    obtain ⟨hc82, h⟩ := asrt_some h
                    obtain ⟨x83, I84, hv85, h⟩ := bnd2_some h
                    refine X.callVi (pc := 395)  (c_GWL_go hE (dle hd (Nat.le_of_ble_eq_true rfl)) hc82 hv85) cv_Law_47 (by decide +kernel) hc82 ⟨by decide, rfl⟩ (ddd hd (Nat.le_of_ble_eq_true rfl)) rfl (Nat.le_of_ble_eq_true rfl) (Nat.zero_add _).symm (Nat.zero_add _).symm ?_
                    refine X.aload_2 (pc := 398) (by decide +kernel) ?_
                    refine X.aload_0 (pc := 399) (by decide +kernel) ?_
                    refine X.iload_4 (pc := 400) (by decide +kernel) ?_
                    refine X.iconst (pc := 402) (i := 1) (v := 1) ic_1 (by decide +kernel) ?_
                    refine X.iadd (pc := 403) (by decide +kernel) ?_
                    refine X.nameI (fun x86 hx86 => ?_)
                    have h := lt_at hx86 h
                    obtain ⟨hi87, h⟩ := asrt_some h
                    refine X.sld (pc := 404) hX (by decide +kernel) hi87 ?_
                    refine X.aload_0 (pc := 405) (by decide +kernel) ?_
                    refine X.iload_4 (pc := 406) (by decide +kernel) ?_
                    refine X.iconst (pc := 408) (i := 2) (v := 2) ic_2 (by decide +kernel) ?_
                    refine X.iadd (pc := 409) (by decide +kernel) ?_
                    refine X.nameI (fun x88 hx88 => ?_)
                    have h := lt_at hx88 h
                    obtain ⟨hi89, h⟩ := asrt_some h
                    refine X.sld (pc := 410) hX (by decide +kernel) hi89 ?_
                    obtain ⟨hc90, h⟩ := asrt_some h
                    obtain ⟨x91, I92, hv93, h⟩ := bnd2_some h
                    refine X.callVi (pc := 411)  (c_Mod_go hE (dle hd (Nat.le_of_ble_eq_true rfl)) hc90 hv93) cv_Law_51 (by decide +kernel) hc90 ⟨by decide, rfl⟩ (ddd hd (Nat.le_of_ble_eq_true rfl)) rfl (Nat.le_of_ble_eq_true rfl) (Nat.zero_add _).symm (Nat.zero_add _).symm ?_
                    rcases ifb_some h with ⟨hq94, h⟩ | ⟨hq94, h⟩
                    · refine X.icmp_eq_t (pc := 414) (off := 1121) (tgt := 1535) hq94 rfl (by decide +kernel) ?_
                      refine X.iinc_4 (pc := 1535) (z := 5) (v := 5) ic_5 (by decide +kernel) (by decide) rfl ?_
                      refine X.goto (pc := 1538) (off := (-1515)) (tgt := 23) (by decide +kernel) rfl ?_
                      refine X.widen (nc' := f) (ns' := f * 6) (by omega) (by omega) ?_
                      exact ih h
                    · refine X.icmp_eq_f (pc := 414) (off := 1121) (tgt := 1535) hq94 rfl (by decide +kernel) ?_
                      refine X.iconst (pc := 417) (i := 0) (v := 0) ic_0 (by decide +kernel) ?_
                      have j0 := Option.some.inj h
                      obtain ⟨i0, j1⟩ := Prod.mk.inj j0
                      obtain ⟨i1, j2⟩ := Prod.mk.inj j1
                      obtain ⟨i2, j3⟩ := Prod.mk.inj j2
                      subst i0
                      subst i1
                      subst i2
                      subst j3
                      exact X.ireturn (pc := 418) (by decide +kernel) ⟨_, rfl, nz01 (Or.inl rfl)⟩ ⟨rfl, rfl, rfl, rfl, rfl, rfl⟩
                  · rcases ifb_some h with ⟨hq4_7, h⟩ | ⟨hq4_7, h⟩
                    · refine X.tabIn (pc := 39) (dflt := 1496) (lo := 0) (hi := 47) (offs := #[205, 230, 255, 268, 281, 306, 343, 380, 417, 454, 515, 540, 553, 578, 591, 604, 617, 630, 655, 680, 717, 742, 767, 792, 829, 866, 879, 904, 929, 954, 979, 1004, 1017, 1042, 1055, 1092, 1153, 1190, 1203, 1217, 1230, 1279, 1304, 1341, 1366, 1391, 1416, 1441]) (len := 205) (off := 380) (tgt := 419) (by decide +kernel) (by rw [hq4_7]; decide +kernel) (by rw [hq4_7]; decide +kernel) (by rw [hq4_7]; decide +kernel) rfl ?_
                      refine X.aload_1 (pc := 419) (by decide +kernel) ?_
                      refine X.aload_0 (pc := 420) (by decide +kernel) ?_
                      refine X.iload_4 (pc := 421) (by decide +kernel) ?_
                      refine X.iconst (pc := 423) (i := 1) (v := 1) ic_1 (by decide +kernel) ?_
                      refine X.iadd (pc := 424) (by decide +kernel) ?_
                      refine X.nameI (fun x95 hx95 => ?_)
                      have h := lt_at hx95 h
                      obtain ⟨hi96, h⟩ := asrt_some h
                      refine X.sld (pc := 425) hX (by decide +kernel) hi96 ?_
                      refine X.aload_0 (pc := 426) (by decide +kernel) ?_
                      refine X.iload_4 (pc := 427) (by decide +kernel) ?_
                      refine X.iconst (pc := 429) (i := 2) (v := 2) ic_2 (by decide +kernel) ?_
                      refine X.iadd (pc := 430) (by decide +kernel) ?_
                      refine X.nameI (fun x97 hx97 => ?_)
                      have h := lt_at hx97 h
                      obtain ⟨hi98, h⟩ := asrt_some h
                      refine X.sld (pc := 431) hX (by decide +kernel) hi98 ?_
                      obtain ⟨hc99, h⟩ := asrt_some h
                      obtain ⟨x100, I101, hv102, h⟩ := bnd2_some h
                      refine X.callVi (pc := 432)  (c_GWL_weights hE (dle hd (Nat.le_of_ble_eq_true rfl)) hc99 hv102) cv_Law_52 (by decide +kernel) hc99 ⟨by decide, rfl⟩ (ddd hd (Nat.le_of_ble_eq_true rfl)) rfl (Nat.le_of_ble_eq_true rfl) (Nat.zero_add _).symm (Nat.zero_add _).symm ?_
                      refine X.aload_2 (pc := 435) (by decide +kernel) ?_
                      refine X.aload_0 (pc := 436) (by decide +kernel) ?_
                      refine X.iload_4 (pc := 437) (by decide +kernel) ?_
                      refine X.iconst (pc := 439) (i := 1) (v := 1) ic_1 (by decide +kernel) ?_
                      refine X.iadd (pc := 440) (by decide +kernel) ?_
                      refine X.nameI (fun x103 hx103 => ?_)
                      have h := lt_at hx103 h
                      obtain ⟨hi104, h⟩ := asrt_some h
                      refine X.sld (pc := 441) hX (by decide +kernel) hi104 ?_
                      refine X.aload_0 (pc := 442) (by decide +kernel) ?_
                      refine X.iload_4 (pc := 443) (by decide +kernel) ?_
                      refine X.iconst (pc := 445) (i := 2) (v := 2) ic_2 (by decide +kernel) ?_
                      refine X.iadd (pc := 446) (by decide +kernel) ?_
                      refine X.nameI (fun x105 hx105 => ?_)
                      have h := lt_at hx105 h
                      obtain ⟨hi106, h⟩ := asrt_some h
                      refine X.sld (pc := 447) hX (by decide +kernel) hi106 ?_
                      obtain ⟨hc107, h⟩ := asrt_some h
                      obtain ⟨x108, I109, hv110, h⟩ := bnd2_some h
                      refine X.callVi (pc := 448)  (c_Mod_weights hE (dle hd (Nat.le_of_ble_eq_true rfl)) hc107 hv110) cv_Law_55 (by decide +kernel) hc107 ⟨by decide, rfl⟩ (ddd hd (Nat.le_of_ble_eq_true rfl)) rfl (Nat.le_of_ble_eq_true rfl) (Nat.zero_add _).symm (Nat.zero_add _).symm ?_
                      rcases ifb_some h with ⟨hq111, h⟩ | ⟨hq111, h⟩
                      · refine X.icmp_eq_t (pc := 451) (off := 1084) (tgt := 1535) hq111 rfl (by decide +kernel) ?_
                        refine X.iinc_4 (pc := 1535) (z := 5) (v := 5) ic_5 (by decide +kernel) (by decide) rfl ?_
                        refine X.goto (pc := 1538) (off := (-1515)) (tgt := 23) (by decide +kernel) rfl ?_
                        refine X.widen (nc' := f) (ns' := f * 6) (by omega) (by omega) ?_
                        exact ih h
                      · refine X.icmp_eq_f (pc := 451) (off := 1084) (tgt := 1535) hq111 rfl (by decide +kernel) ?_
                        refine X.iconst (pc := 454) (i := 0) (v := 0) ic_0 (by decide +kernel) ?_
                        have j0 := Option.some.inj h
                        obtain ⟨i0, j1⟩ := Prod.mk.inj j0
                        obtain ⟨i1, j2⟩ := Prod.mk.inj j1
                        obtain ⟨i2, j3⟩ := Prod.mk.inj j2
                        subst i0
                        subst i1
                        subst i2
                        subst j3
                        exact X.ireturn (pc := 455) (by decide +kernel) ⟨_, rfl, nz01 (Or.inl rfl)⟩ ⟨rfl, rfl, rfl, rfl, rfl, rfl⟩
                    · rcases ifb_some h with ⟨hq4_8, h⟩ | ⟨hq4_8, h⟩
                      · refine X.tabIn (pc := 39) (dflt := 1496) (lo := 0) (hi := 47) (offs := #[205, 230, 255, 268, 281, 306, 343, 380, 417, 454, 515, 540, 553, 578, 591, 604, 617, 630, 655, 680, 717, 742, 767, 792, 829, 866, 879, 904, 929, 954, 979, 1004, 1017, 1042, 1055, 1092, 1153, 1190, 1203, 1217, 1230, 1279, 1304, 1341, 1366, 1391, 1416, 1441]) (len := 205) (off := 417) (tgt := 456) (by decide +kernel) (by rw [hq4_8]; decide +kernel) (by rw [hq4_8]; decide +kernel) (by rw [hq4_8]; decide +kernel) rfl ?_
                        refine X.aload_1 (pc := 456) (by decide +kernel) ?_
                        refine X.aload_0 (pc := 457) (by decide +kernel) ?_
                        refine X.iload_4 (pc := 458) (by decide +kernel) ?_
                        refine X.iconst (pc := 460) (i := 1) (v := 1) ic_1 (by decide +kernel) ?_
                        refine X.iadd (pc := 461) (by decide +kernel) ?_
                        refine X.nameI (fun x112 hx112 => ?_)
                        have h := lt_at hx112 h
                        obtain ⟨hi113, h⟩ := asrt_some h
                        refine X.sld (pc := 462) hX (by decide +kernel) hi113 ?_
                        refine X.aload_0 (pc := 463) (by decide +kernel) ?_
                        refine X.iload_4 (pc := 464) (by decide +kernel) ?_
                        refine X.iconst (pc := 466) (i := 2) (v := 2) ic_2 (by decide +kernel) ?_
                        refine X.iadd (pc := 467) (by decide +kernel) ?_
                        refine X.nameI (fun x114 hx114 => ?_)
                        have h := lt_at hx114 h
                        obtain ⟨hi115, h⟩ := asrt_some h
                        refine X.sld (pc := 468) hX (by decide +kernel) hi115 ?_
                        obtain ⟨hc116, h⟩ := asrt_some h
                        obtain ⟨x117, I118, hv119, h⟩ := bnd2_some h
                        refine X.callVi (pc := 469)  (c_GWL_set hE (dle hd (Nat.le_of_ble_eq_true rfl)) hc116 hv119) cv_Law_56 (by decide +kernel) hc116 ⟨by decide, rfl⟩ (ddd hd (Nat.le_of_ble_eq_true rfl)) rfl (Nat.le_of_ble_eq_true rfl) (Nat.zero_add _).symm (Nat.zero_add _).symm ?_
                        refine X.aload_2 (pc := 472) (by decide +kernel) ?_
                        refine X.aload_0 (pc := 473) (by decide +kernel) ?_
                        refine X.iload_4 (pc := 474) (by decide +kernel) ?_
                        refine X.iconst (pc := 476) (i := 1) (v := 1) ic_1 (by decide +kernel) ?_
                        refine X.iadd (pc := 477) (by decide +kernel) ?_
                        refine X.nameI (fun x120 hx120 => ?_)
                        have h := lt_at hx120 h
                        obtain ⟨hi121, h⟩ := asrt_some h
                        refine X.sld (pc := 478) hX (by decide +kernel) hi121 ?_
                        refine X.aload_0 (pc := 479) (by decide +kernel) ?_
                        refine X.iload_4 (pc := 480) (by decide +kernel) ?_
                        refine X.iconst (pc := 482) (i := 2) (v := 2) ic_2 (by decide +kernel) ?_
                        refine X.iadd (pc := 483) (by decide +kernel) ?_
                        refine X.nameI (fun x122 hx122 => ?_)
                        have h := lt_at hx122 h
                        obtain ⟨hi123, h⟩ := asrt_some h
                        refine X.sld (pc := 484) hX (by decide +kernel) hi123 ?_
                        obtain ⟨hc124, h⟩ := asrt_some h
                        obtain ⟨x125, I126, hv127, h⟩ := bnd2_some h
                        refine X.callVi (pc := 485)  (c_Mod_set hE (dle hd (Nat.le_of_ble_eq_true rfl)) hc124 hv127) cv_Law_59 (by decide +kernel) hc124 ⟨by decide, rfl⟩ (ddd hd (Nat.le_of_ble_eq_true rfl)) rfl (Nat.le_of_ble_eq_true rfl) (Nat.zero_add _).symm (Nat.zero_add _).symm ?_
                        rcases ifb_some h with ⟨hq128, h⟩ | ⟨hq128, h⟩
                        · refine X.icmp_eq_t (pc := 488) (off := 1047) (tgt := 1535) hq128 rfl (by decide +kernel) ?_
                          refine X.iinc_4 (pc := 1535) (z := 5) (v := 5) ic_5 (by decide +kernel) (by decide) rfl ?_
                          refine X.goto (pc := 1538) (off := (-1515)) (tgt := 23) (by decide +kernel) rfl ?_
                          refine X.widen (nc' := f) (ns' := f * 6) (by omega) (by omega) ?_
                          exact ih h
                        · refine X.icmp_eq_f (pc := 488) (off := 1047) (tgt := 1535) hq128 rfl (by decide +kernel) ?_
                          refine X.iconst (pc := 491) (i := 0) (v := 0) ic_0 (by decide +kernel) ?_
                          have j0 := Option.some.inj h
                          obtain ⟨i0, j1⟩ := Prod.mk.inj j0
                          obtain ⟨i1, j2⟩ := Prod.mk.inj j1
                          obtain ⟨i2, j3⟩ := Prod.mk.inj j2
                          subst i0
                          subst i1
                          subst i2
                          subst j3
                          exact X.ireturn (pc := 492) (by decide +kernel) ⟨_, rfl, nz01 (Or.inl rfl)⟩ ⟨rfl, rfl, rfl, rfl, rfl, rfl⟩
                      · rcases ifb_some h with ⟨hq4_9, h⟩ | ⟨hq4_9, h⟩
                        · refine X.tabIn (pc := 39) (dflt := 1496) (lo := 0) (hi := 47) (offs := #[205, 230, 255, 268, 281, 306, 343, 380, 417, 454, 515, 540, 553, 578, 591, 604, 617, 630, 655, 680, 717, 742, 767, 792, 829, 866, 879, 904, 929, 954, 979, 1004, 1017, 1042, 1055, 1092, 1153, 1190, 1203, 1217, 1230, 1279, 1304, 1341, 1366, 1391, 1416, 1441]) (len := 205) (off := 454) (tgt := 493) (by decide +kernel) (by rw [hq4_9]; decide +kernel) (by rw [hq4_9]; decide +kernel) (by rw [hq4_9]; decide +kernel) rfl ?_
                          refine X.aload_1 (pc := 493) (by decide +kernel) ?_
                          refine X.aload_0 (pc := 494) (by decide +kernel) ?_
                          refine X.iload_4 (pc := 495) (by decide +kernel) ?_
                          refine X.iconst (pc := 497) (i := 1) (v := 1) ic_1 (by decide +kernel) ?_
                          refine X.iadd (pc := 498) (by decide +kernel) ?_
                          refine X.nameI (fun x129 hx129 => ?_)
                          have h := lt_at hx129 h
                          obtain ⟨hi130, h⟩ := asrt_some h
                          refine X.sld (pc := 499) hX (by decide +kernel) hi130 ?_
                          refine X.aload_0 (pc := 500) (by decide +kernel) ?_
                          refine X.iload_4 (pc := 501) (by decide +kernel) ?_
                          refine X.iconst (pc := 503) (i := 2) (v := 2) ic_2 (by decide +kernel) ?_
                          refine X.iadd (pc := 504) (by decide +kernel) ?_
                          refine X.nameI (fun x131 hx131 => ?_)
                          have h := lt_at hx131 h
                          obtain ⟨hi132, h⟩ := asrt_some h
                          refine X.sld (pc := 505) hX (by decide +kernel) hi132 ?_
                          refine X.aload_0 (pc := 506) (by decide +kernel) ?_
                          refine X.iload_4 (pc := 507) (by decide +kernel) ?_
                          refine X.iconst (pc := 509) (i := 3) (v := 3) ic_3 (by decide +kernel) ?_
                          refine X.iadd (pc := 510) (by decide +kernel) ?_
                          refine X.nameI (fun x133 hx133 => ?_)
                          have h := lt_at hx133 h
                          obtain ⟨hi134, h⟩ := asrt_some h
                          refine X.sld (pc := 511) hX (by decide +kernel) hi134 ?_
                          refine X.aload_0 (pc := 512) (by decide +kernel) ?_
                          refine X.iload_4 (pc := 513) (by decide +kernel) ?_
                          refine X.iconst (pc := 515) (i := 4) (v := 4) ic_4 (by decide +kernel) ?_
                          refine X.iadd (pc := 516) (by decide +kernel) ?_
                          refine X.nameI (fun x135 hx135 => ?_)
                          have h := lt_at hx135 h
                          obtain ⟨hi136, h⟩ := asrt_some h
                          refine X.sld (pc := 517) hX (by decide +kernel) hi136 ?_
                          obtain ⟨hc137, h⟩ := asrt_some h
                          obtain ⟨x138, I139, hv140, h⟩ := bnd2_some h
                          refine X.callVi (pc := 518)  (c_GWL_sheet hE (dle hd (Nat.le_of_ble_eq_true rfl)) hc137 hv140) cv_Law_60 (by decide +kernel) hc137 ⟨by decide, rfl⟩ (ddd hd (Nat.le_of_ble_eq_true rfl)) rfl (Nat.le_of_ble_eq_true rfl) (Nat.zero_add _).symm (Nat.zero_add _).symm ?_
                          refine X.aload_2 (pc := 521) (by decide +kernel) ?_
                          refine X.aload_0 (pc := 522) (by decide +kernel) ?_
                          refine X.iload_4 (pc := 523) (by decide +kernel) ?_
                          refine X.iconst (pc := 525) (i := 1) (v := 1) ic_1 (by decide +kernel) ?_
                          refine X.iadd (pc := 526) (by decide +kernel) ?_
                          refine X.nameI (fun x141 hx141 => ?_)
                          have h := lt_at hx141 h
                          obtain ⟨hi142, h⟩ := asrt_some h
                          refine X.sld (pc := 527) hX (by decide +kernel) hi142 ?_
                          refine X.aload_0 (pc := 528) (by decide +kernel) ?_
                          refine X.iload_4 (pc := 529) (by decide +kernel) ?_
                          refine X.iconst (pc := 531) (i := 2) (v := 2) ic_2 (by decide +kernel) ?_
                          refine X.iadd (pc := 532) (by decide +kernel) ?_
                          refine X.nameI (fun x143 hx143 => ?_)
                          have h := lt_at hx143 h
                          obtain ⟨hi144, h⟩ := asrt_some h
                          refine X.sld (pc := 533) hX (by decide +kernel) hi144 ?_
                          refine X.aload_0 (pc := 534) (by decide +kernel) ?_
                          refine X.iload_4 (pc := 535) (by decide +kernel) ?_
                          refine X.iconst (pc := 537) (i := 3) (v := 3) ic_3 (by decide +kernel) ?_
                          refine X.iadd (pc := 538) (by decide +kernel) ?_
                          refine X.nameI (fun x145 hx145 => ?_)
                          have h := lt_at hx145 h
                          obtain ⟨hi146, h⟩ := asrt_some h
                          refine X.sld (pc := 539) hX (by decide +kernel) hi146 ?_
                          refine X.aload_0 (pc := 540) (by decide +kernel) ?_
                          refine X.iload_4 (pc := 541) (by decide +kernel) ?_
                          refine X.iconst (pc := 543) (i := 4) (v := 4) ic_4 (by decide +kernel) ?_
                          refine X.iadd (pc := 544) (by decide +kernel) ?_
                          refine X.nameI (fun x147 hx147 => ?_)
                          have h := lt_at hx147 h
                          obtain ⟨hi148, h⟩ := asrt_some h
                          refine X.sld (pc := 545) hX (by decide +kernel) hi148 ?_
                          obtain ⟨hc149, h⟩ := asrt_some h
                          obtain ⟨x150, I151, hv152, h⟩ := bnd2_some h
                          refine X.callVi (pc := 546)  (c_Mod_sheet hE (dle hd (Nat.le_of_ble_eq_true rfl)) hc149 hv152) cv_Law_64 (by decide +kernel) hc149 ⟨by decide, rfl⟩ (ddd hd (Nat.le_of_ble_eq_true rfl)) rfl (Nat.le_of_ble_eq_true rfl) (Nat.zero_add _).symm (Nat.zero_add _).symm ?_
                          rcases ifb_some h with ⟨hq153, h⟩ | ⟨hq153, h⟩
                          · refine X.icmp_eq_t (pc := 549) (off := 986) (tgt := 1535) hq153 rfl (by decide +kernel) ?_
                            refine X.iinc_4 (pc := 1535) (z := 5) (v := 5) ic_5 (by decide +kernel) (by decide) rfl ?_
                            refine X.goto (pc := 1538) (off := (-1515)) (tgt := 23) (by decide +kernel) rfl ?_
                            refine X.widen (nc' := f) (ns' := f * 6) (by omega) (by omega) ?_
                            exact ih h
                          · refine X.icmp_eq_f (pc := 549) (off := 986) (tgt := 1535) hq153 rfl (by decide +kernel) ?_
                            refine X.iconst (pc := 552) (i := 0) (v := 0) ic_0 (by decide +kernel) ?_
                            have j0 := Option.some.inj h
                            obtain ⟨i0, j1⟩ := Prod.mk.inj j0
                            obtain ⟨i1, j2⟩ := Prod.mk.inj j1
                            obtain ⟨i2, j3⟩ := Prod.mk.inj j2
                            subst i0
                            subst i1
                            subst i2
                            subst j3
                            exact X.ireturn (pc := 553) (by decide +kernel) ⟨_, rfl, nz01 (Or.inl rfl)⟩ ⟨rfl, rfl, rfl, rfl, rfl, rfl⟩
                        · rcases ifb_some h with ⟨hq4_10, h⟩ | ⟨hq4_10, h⟩
                          · refine X.tabIn (pc := 39) (dflt := 1496) (lo := 0) (hi := 47) (offs := #[205, 230, 255, 268, 281, 306, 343, 380, 417, 454, 515, 540, 553, 578, 591, 604, 617, 630, 655, 680, 717, 742, 767, 792, 829, 866, 879, 904, 929, 954, 979, 1004, 1017, 1042, 1055, 1092, 1153, 1190, 1203, 1217, 1230, 1279, 1304, 1341, 1366, 1391, 1416, 1441]) (len := 205) (off := 515) (tgt := 554) (by decide +kernel) (by rw [hq4_10]; decide +kernel) (by rw [hq4_10]; decide +kernel) (by rw [hq4_10]; decide +kernel) rfl ?_
                            refine X.aload_1 (pc := 554) (by decide +kernel) ?_
                            refine X.aload_0 (pc := 555) (by decide +kernel) ?_
                            refine X.iload_4 (pc := 556) (by decide +kernel) ?_
                            refine X.iconst (pc := 558) (i := 1) (v := 1) ic_1 (by decide +kernel) ?_
                            refine X.iadd (pc := 559) (by decide +kernel) ?_
                            refine X.nameI (fun x154 hx154 => ?_)
                            have h := lt_at hx154 h
                            obtain ⟨hi155, h⟩ := asrt_some h
                            refine X.sld (pc := 560) hX (by decide +kernel) hi155 ?_
                            obtain ⟨hc156, h⟩ := asrt_some h
                            obtain ⟨x157, I158, hv159, h⟩ := bnd2_some h
                            refine X.callVi (pc := 561)  (c_GWL_step hE (dle hd (Nat.le_of_ble_eq_true rfl)) hc156 hv159) cv_Law_65 (by decide +kernel) hc156 ⟨by decide, rfl⟩ (ddd hd (Nat.le_of_ble_eq_true rfl)) rfl (Nat.le_of_ble_eq_true rfl) (Nat.zero_add _).symm (Nat.zero_add _).symm ?_
                            refine X.aload_2 (pc := 564) (by decide +kernel) ?_
                            refine X.aload_0 (pc := 565) (by decide +kernel) ?_
                            refine X.iload_4 (pc := 566) (by decide +kernel) ?_
                            refine X.iconst (pc := 568) (i := 1) (v := 1) ic_1 (by decide +kernel) ?_
                            refine X.iadd (pc := 569) (by decide +kernel) ?_
                            refine X.nameI (fun x160 hx160 => ?_)
                            have h := lt_at hx160 h
                            obtain ⟨hi161, h⟩ := asrt_some h
                            refine X.sld (pc := 570) hX (by decide +kernel) hi161 ?_
                            obtain ⟨hc162, h⟩ := asrt_some h
                            obtain ⟨x163, I164, hv165, h⟩ := bnd2_some h
                            refine X.callVi (pc := 571)  (c_Mod_step hE (dle hd (Nat.le_of_ble_eq_true rfl)) hc162 hv165) cv_Law_68 (by decide +kernel) hc162 ⟨by decide, rfl⟩ (ddd hd (Nat.le_of_ble_eq_true rfl)) rfl (Nat.le_of_ble_eq_true rfl) (Nat.zero_add _).symm (Nat.zero_add _).symm ?_
                            rcases ifb_some h with ⟨hq166, h⟩ | ⟨hq166, h⟩
                            · refine X.icmp_eq_t (pc := 574) (off := 961) (tgt := 1535) hq166 rfl (by decide +kernel) ?_
                              refine X.iinc_4 (pc := 1535) (z := 5) (v := 5) ic_5 (by decide +kernel) (by decide) rfl ?_
                              refine X.goto (pc := 1538) (off := (-1515)) (tgt := 23) (by decide +kernel) rfl ?_
                              refine X.widen (nc' := f) (ns' := f * 6) (by omega) (by omega) ?_
                              exact ih h
                            · refine X.icmp_eq_f (pc := 574) (off := 961) (tgt := 1535) hq166 rfl (by decide +kernel) ?_
                              refine X.iconst (pc := 577) (i := 0) (v := 0) ic_0 (by decide +kernel) ?_
                              have j0 := Option.some.inj h
                              obtain ⟨i0, j1⟩ := Prod.mk.inj j0
                              obtain ⟨i1, j2⟩ := Prod.mk.inj j1
                              obtain ⟨i2, j3⟩ := Prod.mk.inj j2
                              subst i0
                              subst i1
                              subst i2
                              subst j3
                              exact X.ireturn (pc := 578) (by decide +kernel) ⟨_, rfl, nz01 (Or.inl rfl)⟩ ⟨rfl, rfl, rfl, rfl, rfl, rfl⟩
                          · rcases ifb_some h with ⟨hq4_11, h⟩ | ⟨hq4_11, h⟩
                            · refine X.tabIn (pc := 39) (dflt := 1496) (lo := 0) (hi := 47) (offs := #[205, 230, 255, 268, 281, 306, 343, 380, 417, 454, 515, 540, 553, 578, 591, 604, 617, 630, 655, 680, 717, 742, 767, 792, 829, 866, 879, 904, 929, 954, 979, 1004, 1017, 1042, 1055, 1092, 1153, 1190, 1203, 1217, 1230, 1279, 1304, 1341, 1366, 1391, 1416, 1441]) (len := 205) (off := 540) (tgt := 579) (by decide +kernel) (by rw [hq4_11]; decide +kernel) (by rw [hq4_11]; decide +kernel) (by rw [hq4_11]; decide +kernel) rfl ?_
                              refine X.aload_1 (pc := 579) (by decide +kernel) ?_
                              obtain ⟨hc167, h⟩ := asrt_some h
                              obtain ⟨x168, I169, L170, hv171, h⟩ := bnd3_some h
                              refine X.callVi (pc := 580)  (c_GWL_alone hE (dle hd (Nat.le_of_ble_eq_true rfl)) hc167 hv171) cv_Law_69 (by decide +kernel) hc167 ⟨by decide, rfl⟩ (ddd hd (Nat.le_of_ble_eq_true rfl)) rfl (Nat.le_of_ble_eq_true rfl) (Nat.zero_add _).symm (Nat.zero_add _).symm ?_
                              refine X.aload_2 (pc := 583) (by decide +kernel) ?_
                              obtain ⟨hc172, h⟩ := asrt_some h
                              obtain ⟨x173, I174, L175, hv176, h⟩ := bnd3_some h
                              refine X.callVi (pc := 584)  (c_Mod_alone hE (dle hd (Nat.le_of_ble_eq_true rfl)) hc172 hv176) cv_Law_72 (by decide +kernel) hc172 ⟨by decide, rfl⟩ (ddd hd (Nat.le_of_ble_eq_true rfl)) rfl (Nat.le_of_ble_eq_true rfl) (Nat.zero_add _).symm (Nat.zero_add _).symm ?_
                              rcases ifb_some h with ⟨hq177, h⟩ | ⟨hq177, h⟩
                              · refine X.icmp_eq_t (pc := 587) (off := 948) (tgt := 1535) hq177 rfl (by decide +kernel) ?_
                                refine X.iinc_4 (pc := 1535) (z := 5) (v := 5) ic_5 (by decide +kernel) (by decide) rfl ?_
                                refine X.goto (pc := 1538) (off := (-1515)) (tgt := 23) (by decide +kernel) rfl ?_
                                refine X.widen (nc' := f) (ns' := f * 6) (by omega) (by omega) ?_
                                exact ih h
                              · refine X.icmp_eq_f (pc := 587) (off := 948) (tgt := 1535) hq177 rfl (by decide +kernel) ?_
                                refine X.iconst (pc := 590) (i := 0) (v := 0) ic_0 (by decide +kernel) ?_
                                have j0 := Option.some.inj h
                                obtain ⟨i0, j1⟩ := Prod.mk.inj j0
                                obtain ⟨i1, j2⟩ := Prod.mk.inj j1
                                obtain ⟨i2, j3⟩ := Prod.mk.inj j2
                                subst i0
                                subst i1
                                subst i2
                                subst j3
                                exact X.ireturn (pc := 591) (by decide +kernel) ⟨_, rfl, nz01 (Or.inl rfl)⟩ ⟨rfl, rfl, rfl, rfl, rfl, rfl⟩
                            · rcases ifb_some h with ⟨hq4_12, h⟩ | ⟨hq4_12, h⟩
                              · refine X.tabIn (pc := 39) (dflt := 1496) (lo := 0) (hi := 47) (offs := #[205, 230, 255, 268, 281, 306, 343, 380, 417, 454, 515, 540, 553, 578, 591, 604, 617, 630, 655, 680, 717, 742, 767, 792, 829, 866, 879, 904, 929, 954, 979, 1004, 1017, 1042, 1055, 1092, 1153, 1190, 1203, 1217, 1230, 1279, 1304, 1341, 1366, 1391, 1416, 1441]) (len := 205) (off := 553) (tgt := 592) (by decide +kernel) (by rw [hq4_12]; decide +kernel) (by rw [hq4_12]; decide +kernel) (by rw [hq4_12]; decide +kernel) rfl ?_
                                refine X.aload_1 (pc := 592) (by decide +kernel) ?_
                                refine X.aload_0 (pc := 593) (by decide +kernel) ?_
                                refine X.iload_4 (pc := 594) (by decide +kernel) ?_
                                refine X.iconst (pc := 596) (i := 1) (v := 1) ic_1 (by decide +kernel) ?_
                                refine X.iadd (pc := 597) (by decide +kernel) ?_
                                refine X.nameI (fun x178 hx178 => ?_)
                                have h := lt_at hx178 h
                                obtain ⟨hi179, h⟩ := asrt_some h
                                refine X.sld (pc := 598) hX (by decide +kernel) hi179 ?_
                                obtain ⟨hc180, h⟩ := asrt_some h
                                obtain ⟨x181, I182, L183, hv184, h⟩ := bnd3_some h
                                refine X.callVi (pc := 599)  (c_GWL_ask hE (dle hd (Nat.le_of_ble_eq_true rfl)) hc180 hv184) cv_Law_73 (by decide +kernel) hc180 ⟨by decide, rfl⟩ (ddd hd (Nat.le_of_ble_eq_true rfl)) rfl (Nat.le_of_ble_eq_true rfl) (Nat.zero_add _).symm (Nat.zero_add _).symm ?_
                                refine X.aload_2 (pc := 602) (by decide +kernel) ?_
                                refine X.aload_0 (pc := 603) (by decide +kernel) ?_
                                refine X.iload_4 (pc := 604) (by decide +kernel) ?_
                                refine X.iconst (pc := 606) (i := 1) (v := 1) ic_1 (by decide +kernel) ?_
                                refine X.iadd (pc := 607) (by decide +kernel) ?_
                                refine X.nameI (fun x185 hx185 => ?_)
                                have h := lt_at hx185 h
                                obtain ⟨hi186, h⟩ := asrt_some h
                                refine X.sld (pc := 608) hX (by decide +kernel) hi186 ?_
                                obtain ⟨hc187, h⟩ := asrt_some h
                                obtain ⟨x188, I189, L190, hv191, h⟩ := bnd3_some h
                                refine X.callVi (pc := 609)  (c_Mod_ask hE (dle hd (Nat.le_of_ble_eq_true rfl)) hc187 hv191) cv_Law_76 (by decide +kernel) hc187 ⟨by decide, rfl⟩ (ddd hd (Nat.le_of_ble_eq_true rfl)) rfl (Nat.le_of_ble_eq_true rfl) (Nat.zero_add _).symm (Nat.zero_add _).symm ?_
                                rcases ifb_some h with ⟨hq192, h⟩ | ⟨hq192, h⟩
                                · refine X.icmp_eq_t (pc := 612) (off := 923) (tgt := 1535) hq192 rfl (by decide +kernel) ?_
                                  refine X.iinc_4 (pc := 1535) (z := 5) (v := 5) ic_5 (by decide +kernel) (by decide) rfl ?_
                                  refine X.goto (pc := 1538) (off := (-1515)) (tgt := 23) (by decide +kernel) rfl ?_
                                  refine X.widen (nc' := f) (ns' := f * 6) (by omega) (by omega) ?_
                                  exact ih h
                                · refine X.icmp_eq_f (pc := 612) (off := 923) (tgt := 1535) hq192 rfl (by decide +kernel) ?_
                                  refine X.iconst (pc := 615) (i := 0) (v := 0) ic_0 (by decide +kernel) ?_
                                  have j0 := Option.some.inj h
                                  obtain ⟨i0, j1⟩ := Prod.mk.inj j0
                                  obtain ⟨i1, j2⟩ := Prod.mk.inj j1
                                  obtain ⟨i2, j3⟩ := Prod.mk.inj j2
                                  subst i0
                                  subst i1
                                  subst i2
                                  subst j3
                                  exact X.ireturn (pc := 616) (by decide +kernel) ⟨_, rfl, nz01 (Or.inl rfl)⟩ ⟨rfl, rfl, rfl, rfl, rfl, rfl⟩
                              · rcases ifb_some h with ⟨hq4_13, h⟩ | ⟨hq4_13, h⟩
                                · refine X.tabIn (pc := 39) (dflt := 1496) (lo := 0) (hi := 47) (offs := #[205, 230, 255, 268, 281, 306, 343, 380, 417, 454, 515, 540, 553, 578, 591, 604, 617, 630, 655, 680, 717, 742, 767, 792, 829, 866, 879, 904, 929, 954, 979, 1004, 1017, 1042, 1055, 1092, 1153, 1190, 1203, 1217, 1230, 1279, 1304, 1341, 1366, 1391, 1416, 1441]) (len := 205) (off := 578) (tgt := 617) (by decide +kernel) (by rw [hq4_13]; decide +kernel) (by rw [hq4_13]; decide +kernel) (by rw [hq4_13]; decide +kernel) rfl ?_
                                  refine X.aload_1 (pc := 617) (by decide +kernel) ?_
                                  obtain ⟨hc193, h⟩ := asrt_some h
                                  obtain ⟨x194, I195, hv196, h⟩ := bnd2_some h
                                  refine X.callVi (pc := 618)  (c_GWL_undo hE (dle hd (Nat.le_of_ble_eq_true rfl)) hc193 hv196) cv_Law_77 (by decide +kernel) hc193 ⟨by decide, rfl⟩ (ddd hd (Nat.le_of_ble_eq_true rfl)) rfl (Nat.le_of_ble_eq_true rfl) (Nat.zero_add _).symm (Nat.zero_add _).symm ?_
                                  refine X.aload_2 (pc := 621) (by decide +kernel) ?_
                                  obtain ⟨hc197, h⟩ := asrt_some h
                                  obtain ⟨x198, I199, hv200, h⟩ := bnd2_some h
                                  refine X.callVi (pc := 622)  (c_Mod_undo hE (dle hd (Nat.le_of_ble_eq_true rfl)) hc197 hv200) cv_Law_80 (by decide +kernel) hc197 ⟨by decide, rfl⟩ (ddd hd (Nat.le_of_ble_eq_true rfl)) rfl (Nat.le_of_ble_eq_true rfl) (Nat.zero_add _).symm (Nat.zero_add _).symm ?_
                                  rcases ifb_some h with ⟨hq201, h⟩ | ⟨hq201, h⟩
                                  · refine X.icmp_eq_t (pc := 625) (off := 910) (tgt := 1535) hq201 rfl (by decide +kernel) ?_
                                    refine X.iinc_4 (pc := 1535) (z := 5) (v := 5) ic_5 (by decide +kernel) (by decide) rfl ?_
                                    refine X.goto (pc := 1538) (off := (-1515)) (tgt := 23) (by decide +kernel) rfl ?_
                                    refine X.widen (nc' := f) (ns' := f * 6) (by omega) (by omega) ?_
                                    exact ih h
                                  · refine X.icmp_eq_f (pc := 625) (off := 910) (tgt := 1535) hq201 rfl (by decide +kernel) ?_
                                    refine X.iconst (pc := 628) (i := 0) (v := 0) ic_0 (by decide +kernel) ?_
                                    have j0 := Option.some.inj h
                                    obtain ⟨i0, j1⟩ := Prod.mk.inj j0
                                    obtain ⟨i1, j2⟩ := Prod.mk.inj j1
                                    obtain ⟨i2, j3⟩ := Prod.mk.inj j2
                                    subst i0
                                    subst i1
                                    subst i2
                                    subst j3
                                    exact X.ireturn (pc := 629) (by decide +kernel) ⟨_, rfl, nz01 (Or.inl rfl)⟩ ⟨rfl, rfl, rfl, rfl, rfl, rfl⟩
                                · rcases ifb_some h with ⟨hq4_14, h⟩ | ⟨hq4_14, h⟩
                                  · refine X.tabIn (pc := 39) (dflt := 1496) (lo := 0) (hi := 47) (offs := #[205, 230, 255, 268, 281, 306, 343, 380, 417, 454, 515, 540, 553, 578, 591, 604, 617, 630, 655, 680, 717, 742, 767, 792, 829, 866, 879, 904, 929, 954, 979, 1004, 1017, 1042, 1055, 1092, 1153, 1190, 1203, 1217, 1230, 1279, 1304, 1341, 1366, 1391, 1416, 1441]) (len := 205) (off := 591) (tgt := 630) (by decide +kernel) (by rw [hq4_14]; decide +kernel) (by rw [hq4_14]; decide +kernel) (by rw [hq4_14]; decide +kernel) rfl ?_
                                    refine X.aload_1 (pc := 630) (by decide +kernel) ?_
                                    obtain ⟨hc202, h⟩ := asrt_some h
                                    obtain ⟨x203, I204, L205, hv206, h⟩ := bnd3_some h
                                    refine X.callVi (pc := 631)  (c_GWL_look hE (dle hd (Nat.le_of_ble_eq_true rfl)) hc202 hv206) cv_Law_81 (by decide +kernel) hc202 ⟨by decide, rfl⟩ (ddd hd (Nat.le_of_ble_eq_true rfl)) rfl (Nat.le_of_ble_eq_true rfl) (Nat.zero_add _).symm (Nat.zero_add _).symm ?_
                                    refine X.aload_2 (pc := 634) (by decide +kernel) ?_
                                    obtain ⟨hc207, h⟩ := asrt_some h
                                    obtain ⟨x208, I209, L210, hv211, h⟩ := bnd3_some h
                                    refine X.callVi (pc := 635)  (c_Mod_look hE (dle hd (Nat.le_of_ble_eq_true rfl)) hc207 hv211) cv_Law_84 (by decide +kernel) hc207 ⟨by decide, rfl⟩ (ddd hd (Nat.le_of_ble_eq_true rfl)) rfl (Nat.le_of_ble_eq_true rfl) (Nat.zero_add _).symm (Nat.zero_add _).symm ?_
                                    rcases ifb_some h with ⟨hq212, h⟩ | ⟨hq212, h⟩
                                    · refine X.icmp_eq_t (pc := 638) (off := 897) (tgt := 1535) hq212 rfl (by decide +kernel) ?_
                                      refine X.iinc_4 (pc := 1535) (z := 5) (v := 5) ic_5 (by decide +kernel) (by decide) rfl ?_
                                      refine X.goto (pc := 1538) (off := (-1515)) (tgt := 23) (by decide +kernel) rfl ?_
                                      refine X.widen (nc' := f) (ns' := f * 6) (by omega) (by omega) ?_
                                      exact ih h
                                    · refine X.icmp_eq_f (pc := 638) (off := 897) (tgt := 1535) hq212 rfl (by decide +kernel) ?_
                                      refine X.iconst (pc := 641) (i := 0) (v := 0) ic_0 (by decide +kernel) ?_
                                      have j0 := Option.some.inj h
                                      obtain ⟨i0, j1⟩ := Prod.mk.inj j0
                                      obtain ⟨i1, j2⟩ := Prod.mk.inj j1
                                      obtain ⟨i2, j3⟩ := Prod.mk.inj j2
                                      subst i0
                                      subst i1
                                      subst i2
                                      subst j3
                                      exact X.ireturn (pc := 642) (by decide +kernel) ⟨_, rfl, nz01 (Or.inl rfl)⟩ ⟨rfl, rfl, rfl, rfl, rfl, rfl⟩
                                  · rcases ifb_some h with ⟨hq4_15, h⟩ | ⟨hq4_15, h⟩
                                    · refine X.tabIn (pc := 39) (dflt := 1496) (lo := 0) (hi := 47) (offs := #[205, 230, 255, 268, 281, 306, 343, 380, 417, 454, 515, 540, 553, 578, 591, 604, 617, 630, 655, 680, 717, 742, 767, 792, 829, 866, 879, 904, 929, 954, 979, 1004, 1017, 1042, 1055, 1092, 1153, 1190, 1203, 1217, 1230, 1279, 1304, 1341, 1366, 1391, 1416, 1441]) (len := 205) (off := 604) (tgt := 643) (by decide +kernel) (by rw [hq4_15]; decide +kernel) (by rw [hq4_15]; decide +kernel) (by rw [hq4_15]; decide +kernel) rfl ?_
                                      refine X.aload_1 (pc := 643) (by decide +kernel) ?_
                                      obtain ⟨hc213, h⟩ := asrt_some h
                                      obtain ⟨x214, I215, L216, hv217, h⟩ := bnd3_some h
                                      refine X.callVi (pc := 644)  (c_GWL_way hE (dle hd (Nat.le_of_ble_eq_true rfl)) hc213 hv217) cv_Law_85 (by decide +kernel) hc213 ⟨by decide, rfl⟩ (ddd hd (Nat.le_of_ble_eq_true rfl)) rfl (Nat.le_of_ble_eq_true rfl) (Nat.zero_add _).symm (Nat.zero_add _).symm ?_
                                      refine X.aload_2 (pc := 647) (by decide +kernel) ?_
                                      obtain ⟨hc218, h⟩ := asrt_some h
                                      obtain ⟨x219, I220, L221, hv222, h⟩ := bnd3_some h
                                      refine X.callVi (pc := 648)  (c_Mod_way hE (dle hd (Nat.le_of_ble_eq_true rfl)) hc218 hv222) cv_Law_88 (by decide +kernel) hc218 ⟨by decide, rfl⟩ (ddd hd (Nat.le_of_ble_eq_true rfl)) rfl (Nat.le_of_ble_eq_true rfl) (Nat.zero_add _).symm (Nat.zero_add _).symm ?_
                                      rcases ifb_some h with ⟨hq223, h⟩ | ⟨hq223, h⟩
                                      · refine X.icmp_eq_t (pc := 651) (off := 884) (tgt := 1535) hq223 rfl (by decide +kernel) ?_
                                        refine X.iinc_4 (pc := 1535) (z := 5) (v := 5) ic_5 (by decide +kernel) (by decide) rfl ?_
                                        refine X.goto (pc := 1538) (off := (-1515)) (tgt := 23) (by decide +kernel) rfl ?_
                                        refine X.widen (nc' := f) (ns' := f * 6) (by omega) (by omega) ?_
                                        exact ih h
                                      · refine X.icmp_eq_f (pc := 651) (off := 884) (tgt := 1535) hq223 rfl (by decide +kernel) ?_
                                        refine X.iconst (pc := 654) (i := 0) (v := 0) ic_0 (by decide +kernel) ?_
                                        have j0 := Option.some.inj h
                                        obtain ⟨i0, j1⟩ := Prod.mk.inj j0
                                        obtain ⟨i1, j2⟩ := Prod.mk.inj j1
                                        obtain ⟨i2, j3⟩ := Prod.mk.inj j2
                                        subst i0
                                        subst i1
                                        subst i2
                                        subst j3
                                        exact X.ireturn (pc := 655) (by decide +kernel) ⟨_, rfl, nz01 (Or.inl rfl)⟩ ⟨rfl, rfl, rfl, rfl, rfl, rfl⟩
                                    · rcases ifb_some h with ⟨hq4_16, h⟩ | ⟨hq4_16, h⟩
                                      · refine X.tabIn (pc := 39) (dflt := 1496) (lo := 0) (hi := 47) (offs := #[205, 230, 255, 268, 281, 306, 343, 380, 417, 454, 515, 540, 553, 578, 591, 604, 617, 630, 655, 680, 717, 742, 767, 792, 829, 866, 879, 904, 929, 954, 979, 1004, 1017, 1042, 1055, 1092, 1153, 1190, 1203, 1217, 1230, 1279, 1304, 1341, 1366, 1391, 1416, 1441]) (len := 205) (off := 617) (tgt := 656) (by decide +kernel) (by rw [hq4_16]; decide +kernel) (by rw [hq4_16]; decide +kernel) (by rw [hq4_16]; decide +kernel) rfl ?_
                                        refine X.aload_1 (pc := 656) (by decide +kernel) ?_
                                        obtain ⟨hc224, h⟩ := asrt_some h
                                        obtain ⟨x225, I226, L227, hv228, h⟩ := bnd3_some h
                                        refine X.callVi (pc := 657)  (c_GWL_reach hE (dle hd (Nat.le_of_ble_eq_true rfl)) hc224 hv228) cv_Law_89 (by decide +kernel) hc224 ⟨by decide, rfl⟩ (ddd hd (Nat.le_of_ble_eq_true rfl)) rfl (Nat.le_of_ble_eq_true rfl) (Nat.zero_add _).symm (Nat.zero_add _).symm ?_
                                        refine X.aload_2 (pc := 660) (by decide +kernel) ?_
                                        obtain ⟨hc229, h⟩ := asrt_some h
                                        obtain ⟨x230, I231, L232, hv233, h⟩ := bnd3_some h
                                        refine X.callVi (pc := 661)  (c_Mod_reach hE (dle hd (Nat.le_of_ble_eq_true rfl)) hc229 hv233) cv_Law_92 (by decide +kernel) hc229 ⟨by decide, rfl⟩ (ddd hd (Nat.le_of_ble_eq_true rfl)) rfl (Nat.le_of_ble_eq_true rfl) (Nat.zero_add _).symm (Nat.zero_add _).symm ?_
                                        rcases ifb_some h with ⟨hq234, h⟩ | ⟨hq234, h⟩
                                        · refine X.icmp_eq_t (pc := 664) (off := 871) (tgt := 1535) hq234 rfl (by decide +kernel) ?_
                                          refine X.iinc_4 (pc := 1535) (z := 5) (v := 5) ic_5 (by decide +kernel) (by decide) rfl ?_
                                          refine X.goto (pc := 1538) (off := (-1515)) (tgt := 23) (by decide +kernel) rfl ?_
                                          refine X.widen (nc' := f) (ns' := f * 6) (by omega) (by omega) ?_
                                          exact ih h
                                        · refine X.icmp_eq_f (pc := 664) (off := 871) (tgt := 1535) hq234 rfl (by decide +kernel) ?_
                                          refine X.iconst (pc := 667) (i := 0) (v := 0) ic_0 (by decide +kernel) ?_
                                          have j0 := Option.some.inj h
                                          obtain ⟨i0, j1⟩ := Prod.mk.inj j0
                                          obtain ⟨i1, j2⟩ := Prod.mk.inj j1
                                          obtain ⟨i2, j3⟩ := Prod.mk.inj j2
                                          subst i0
                                          subst i1
                                          subst i2
                                          subst j3
                                          exact X.ireturn (pc := 668) (by decide +kernel) ⟨_, rfl, nz01 (Or.inl rfl)⟩ ⟨rfl, rfl, rfl, rfl, rfl, rfl⟩
                                      · rcases ifb_some h with ⟨hq4_17, h⟩ | ⟨hq4_17, h⟩
                                        · refine X.tabIn (pc := 39) (dflt := 1496) (lo := 0) (hi := 47) (offs := #[205, 230, 255, 268, 281, 306, 343, 380, 417, 454, 515, 540, 553, 578, 591, 604, 617, 630, 655, 680, 717, 742, 767, 792, 829, 866, 879, 904, 929, 954, 979, 1004, 1017, 1042, 1055, 1092, 1153, 1190, 1203, 1217, 1230, 1279, 1304, 1341, 1366, 1391, 1416, 1441]) (len := 205) (off := 630) (tgt := 669) (by decide +kernel) (by rw [hq4_17]; decide +kernel) (by rw [hq4_17]; decide +kernel) (by rw [hq4_17]; decide +kernel) rfl ?_
                                          refine X.aload_1 (pc := 669) (by decide +kernel) ?_
                                          refine X.aload_0 (pc := 670) (by decide +kernel) ?_
                                          refine X.iload_4 (pc := 671) (by decide +kernel) ?_
                                          refine X.iconst (pc := 673) (i := 1) (v := 1) ic_1 (by decide +kernel) ?_
                                          refine X.iadd (pc := 674) (by decide +kernel) ?_
                                          refine X.nameI (fun x235 hx235 => ?_)
                                          have h := lt_at hx235 h
                                          obtain ⟨hi236, h⟩ := asrt_some h
                                          refine X.sld (pc := 675) hX (by decide +kernel) hi236 ?_
                                          obtain ⟨hc237, h⟩ := asrt_some h
                                          obtain ⟨x238, I239, L240, R241, hv242, h⟩ := bnd4_some h
                                          refine X.callVi (pc := 676)  (c_GWL_never hE (dle hd (Nat.le_of_ble_eq_true rfl)) hc237 hv242) cv_Law_93 (by decide +kernel) hc237 ⟨by decide, rfl⟩ (ddd hd (Nat.le_of_ble_eq_true rfl)) rfl (Nat.le_of_ble_eq_true rfl) (Nat.zero_add _).symm (Nat.zero_add _).symm ?_
                                          refine X.aload_2 (pc := 679) (by decide +kernel) ?_
                                          refine X.aload_0 (pc := 680) (by decide +kernel) ?_
                                          refine X.iload_4 (pc := 681) (by decide +kernel) ?_
                                          refine X.iconst (pc := 683) (i := 1) (v := 1) ic_1 (by decide +kernel) ?_
                                          refine X.iadd (pc := 684) (by decide +kernel) ?_
                                          refine X.nameI (fun x243 hx243 => ?_)
                                          have h := lt_at hx243 h
                                          obtain ⟨hi244, h⟩ := asrt_some h
                                          refine X.sld (pc := 685) hX (by decide +kernel) hi244 ?_
                                          obtain ⟨hc245, h⟩ := asrt_some h
                                          obtain ⟨x246, I247, L248, hv249, h⟩ := bnd3_some h
                                          refine X.callVi (pc := 686)  (c_Mod_never hE (dle hd (Nat.le_of_ble_eq_true rfl)) hc245 hv249) cv_Law_96 (by decide +kernel) hc245 ⟨by decide, rfl⟩ (ddd hd (Nat.le_of_ble_eq_true rfl)) rfl (Nat.le_of_ble_eq_true rfl) (Nat.zero_add _).symm (Nat.zero_add _).symm ?_
                                          rcases ifb_some h with ⟨hq250, h⟩ | ⟨hq250, h⟩
                                          · refine X.icmp_eq_t (pc := 689) (off := 846) (tgt := 1535) hq250 rfl (by decide +kernel) ?_
                                            refine X.iinc_4 (pc := 1535) (z := 5) (v := 5) ic_5 (by decide +kernel) (by decide) rfl ?_
                                            refine X.goto (pc := 1538) (off := (-1515)) (tgt := 23) (by decide +kernel) rfl ?_
                                            refine X.widen (nc' := f) (ns' := f * 6) (by omega) (by omega) ?_
                                            exact ih h
                                          · refine X.icmp_eq_f (pc := 689) (off := 846) (tgt := 1535) hq250 rfl (by decide +kernel) ?_
                                            refine X.iconst (pc := 692) (i := 0) (v := 0) ic_0 (by decide +kernel) ?_
                                            have j0 := Option.some.inj h
                                            obtain ⟨i0, j1⟩ := Prod.mk.inj j0
                                            obtain ⟨i1, j2⟩ := Prod.mk.inj j1
                                            obtain ⟨i2, j3⟩ := Prod.mk.inj j2
                                            subst i0
                                            subst i1
                                            subst i2
                                            subst j3
                                            exact X.ireturn (pc := 693) (by decide +kernel) ⟨_, rfl, nz01 (Or.inl rfl)⟩ ⟨rfl, rfl, rfl, rfl, rfl, rfl⟩
                                        · rcases ifb_some h with ⟨hq4_18, h⟩ | ⟨hq4_18, h⟩
                                          · refine X.tabIn (pc := 39) (dflt := 1496) (lo := 0) (hi := 47) (offs := #[205, 230, 255, 268, 281, 306, 343, 380, 417, 454, 515, 540, 553, 578, 591, 604, 617, 630, 655, 680, 717, 742, 767, 792, 829, 866, 879, 904, 929, 954, 979, 1004, 1017, 1042, 1055, 1092, 1153, 1190, 1203, 1217, 1230, 1279, 1304, 1341, 1366, 1391, 1416, 1441]) (len := 205) (off := 655) (tgt := 694) (by decide +kernel) (by rw [hq4_18]; decide +kernel) (by rw [hq4_18]; decide +kernel) (by rw [hq4_18]; decide +kernel) rfl ?_
                                            refine X.aload_1 (pc := 694) (by decide +kernel) ?_
                                            refine X.aload_0 (pc := 695) (by decide +kernel) ?_
                                            refine X.iload_4 (pc := 696) (by decide +kernel) ?_
                                            refine X.iconst (pc := 698) (i := 1) (v := 1) ic_1 (by decide +kernel) ?_
                                            refine X.iadd (pc := 699) (by decide +kernel) ?_
                                            refine X.nameI (fun x251 hx251 => ?_)
                                            have h := lt_at hx251 h
                                            obtain ⟨hi252, h⟩ := asrt_some h
                                            refine X.sld (pc := 700) hX (by decide +kernel) hi252 ?_
                                            obtain ⟨hc253, h⟩ := asrt_some h
                                            obtain ⟨x254, I255, L256, R257, hv258, h⟩ := bnd4_some h
                                            refine X.callVi (pc := 701)  (c_GWL_best hE (dle hd (Nat.le_of_ble_eq_true rfl)) hc253 hv258) cv_Law_97 (by decide +kernel) hc253 ⟨by decide, rfl⟩ (ddd hd (Nat.le_of_ble_eq_true rfl)) rfl (Nat.le_of_ble_eq_true rfl) (Nat.zero_add _).symm (Nat.zero_add _).symm ?_
                                            refine X.aload_2 (pc := 704) (by decide +kernel) ?_
                                            refine X.aload_0 (pc := 705) (by decide +kernel) ?_
                                            refine X.iload_4 (pc := 706) (by decide +kernel) ?_
                                            refine X.iconst (pc := 708) (i := 1) (v := 1) ic_1 (by decide +kernel) ?_
                                            refine X.iadd (pc := 709) (by decide +kernel) ?_
                                            refine X.nameI (fun x259 hx259 => ?_)
                                            have h := lt_at hx259 h
                                            obtain ⟨hi260, h⟩ := asrt_some h
                                            refine X.sld (pc := 710) hX (by decide +kernel) hi260 ?_
                                            obtain ⟨hc261, h⟩ := asrt_some h
                                            obtain ⟨x262, I263, L264, hv265, h⟩ := bnd3_some h
                                            refine X.callVi (pc := 711)  (c_Mod_best hE (dle hd (Nat.le_of_ble_eq_true rfl)) hc261 hv265) cv_Law_100 (by decide +kernel) hc261 ⟨by decide, rfl⟩ (ddd hd (Nat.le_of_ble_eq_true rfl)) rfl (Nat.le_of_ble_eq_true rfl) (Nat.zero_add _).symm (Nat.zero_add _).symm ?_
                                            rcases ifb_some h with ⟨hq266, h⟩ | ⟨hq266, h⟩
                                            · refine X.icmp_eq_t (pc := 714) (off := 821) (tgt := 1535) hq266 rfl (by decide +kernel) ?_
                                              refine X.iinc_4 (pc := 1535) (z := 5) (v := 5) ic_5 (by decide +kernel) (by decide) rfl ?_
                                              refine X.goto (pc := 1538) (off := (-1515)) (tgt := 23) (by decide +kernel) rfl ?_
                                              refine X.widen (nc' := f) (ns' := f * 6) (by omega) (by omega) ?_
                                              exact ih h
                                            · refine X.icmp_eq_f (pc := 714) (off := 821) (tgt := 1535) hq266 rfl (by decide +kernel) ?_
                                              refine X.iconst (pc := 717) (i := 0) (v := 0) ic_0 (by decide +kernel) ?_
                                              have j0 := Option.some.inj h
                                              obtain ⟨i0, j1⟩ := Prod.mk.inj j0
                                              obtain ⟨i1, j2⟩ := Prod.mk.inj j1
                                              obtain ⟨i2, j3⟩ := Prod.mk.inj j2
                                              subst i0
                                              subst i1
                                              subst i2
                                              subst j3
                                              exact X.ireturn (pc := 718) (by decide +kernel) ⟨_, rfl, nz01 (Or.inl rfl)⟩ ⟨rfl, rfl, rfl, rfl, rfl, rfl⟩
                                          · rcases ifb_some h with ⟨hq4_19, h⟩ | ⟨hq4_19, h⟩
                                            · refine X.tabIn (pc := 39) (dflt := 1496) (lo := 0) (hi := 47) (offs := #[205, 230, 255, 268, 281, 306, 343, 380, 417, 454, 515, 540, 553, 578, 591, 604, 617, 630, 655, 680, 717, 742, 767, 792, 829, 866, 879, 904, 929, 954, 979, 1004, 1017, 1042, 1055, 1092, 1153, 1190, 1203, 1217, 1230, 1279, 1304, 1341, 1366, 1391, 1416, 1441]) (len := 205) (off := 680) (tgt := 719) (by decide +kernel) (by rw [hq4_19]; decide +kernel) (by rw [hq4_19]; decide +kernel) (by rw [hq4_19]; decide +kernel) rfl ?_
                                              refine X.aload_1 (pc := 719) (by decide +kernel) ?_
                                              refine X.aload_0 (pc := 720) (by decide +kernel) ?_
                                              refine X.iload_4 (pc := 721) (by decide +kernel) ?_
                                              refine X.iconst (pc := 723) (i := 1) (v := 1) ic_1 (by decide +kernel) ?_
                                              refine X.iadd (pc := 724) (by decide +kernel) ?_
                                              refine X.nameI (fun x267 hx267 => ?_)
                                              have h := lt_at hx267 h
                                              obtain ⟨hi268, h⟩ := asrt_some h
                                              refine X.sld (pc := 725) hX (by decide +kernel) hi268 ?_
                                              refine X.aload_0 (pc := 726) (by decide +kernel) ?_
                                              refine X.iload_4 (pc := 727) (by decide +kernel) ?_
                                              refine X.iconst (pc := 729) (i := 2) (v := 2) ic_2 (by decide +kernel) ?_
                                              refine X.iadd (pc := 730) (by decide +kernel) ?_
                                              refine X.nameI (fun x269 hx269 => ?_)
                                              have h := lt_at hx269 h
                                              obtain ⟨hi270, h⟩ := asrt_some h
                                              refine X.sld (pc := 731) hX (by decide +kernel) hi270 ?_
                                              obtain ⟨hc271, h⟩ := asrt_some h
                                              obtain ⟨x272, I273, L274, R275, hv276, h⟩ := bnd4_some h
                                              refine X.callVi (pc := 732)  (c_GWL_fewest hE (dle hd (Nat.le_of_ble_eq_true rfl)) hc271 hv276) cv_Law_101 (by decide +kernel) hc271 ⟨by decide, rfl⟩ (ddd hd (Nat.le_of_ble_eq_true rfl)) rfl (Nat.le_of_ble_eq_true rfl) (Nat.zero_add _).symm (Nat.zero_add _).symm ?_
                                              refine X.aload_2 (pc := 735) (by decide +kernel) ?_
                                              refine X.aload_0 (pc := 736) (by decide +kernel) ?_
                                              refine X.iload_4 (pc := 737) (by decide +kernel) ?_
                                              refine X.iconst (pc := 739) (i := 1) (v := 1) ic_1 (by decide +kernel) ?_
                                              refine X.iadd (pc := 740) (by decide +kernel) ?_
                                              refine X.nameI (fun x277 hx277 => ?_)
                                              have h := lt_at hx277 h
                                              obtain ⟨hi278, h⟩ := asrt_some h
                                              refine X.sld (pc := 741) hX (by decide +kernel) hi278 ?_
                                              refine X.aload_0 (pc := 742) (by decide +kernel) ?_
                                              refine X.iload_4 (pc := 743) (by decide +kernel) ?_
                                              refine X.iconst (pc := 745) (i := 2) (v := 2) ic_2 (by decide +kernel) ?_
                                              refine X.iadd (pc := 746) (by decide +kernel) ?_
                                              refine X.nameI (fun x279 hx279 => ?_)
                                              have h := lt_at hx279 h
                                              obtain ⟨hi280, h⟩ := asrt_some h
                                              refine X.sld (pc := 747) hX (by decide +kernel) hi280 ?_
                                              obtain ⟨hc281, h⟩ := asrt_some h
                                              obtain ⟨x282, I283, L284, hv285, h⟩ := bnd3_some h
                                              refine X.callVi (pc := 748)  (c_Mod_fewest hE (dle hd (Nat.le_of_ble_eq_true rfl)) hc281 hv285) cv_Law_104 (by decide +kernel) hc281 ⟨by decide, rfl⟩ (ddd hd (Nat.le_of_ble_eq_true rfl)) rfl (Nat.le_of_ble_eq_true rfl) (Nat.zero_add _).symm (Nat.zero_add _).symm ?_
                                              rcases ifb_some h with ⟨hq286, h⟩ | ⟨hq286, h⟩
                                              · refine X.icmp_eq_t (pc := 751) (off := 784) (tgt := 1535) hq286 rfl (by decide +kernel) ?_
                                                refine X.iinc_4 (pc := 1535) (z := 5) (v := 5) ic_5 (by decide +kernel) (by decide) rfl ?_
                                                refine X.goto (pc := 1538) (off := (-1515)) (tgt := 23) (by decide +kernel) rfl ?_
                                                refine X.widen (nc' := f) (ns' := f * 6) (by omega) (by omega) ?_
                                                exact ih h
                                              · refine X.icmp_eq_f (pc := 751) (off := 784) (tgt := 1535) hq286 rfl (by decide +kernel) ?_
                                                refine X.iconst (pc := 754) (i := 0) (v := 0) ic_0 (by decide +kernel) ?_
                                                have j0 := Option.some.inj h
                                                obtain ⟨i0, j1⟩ := Prod.mk.inj j0
                                                obtain ⟨i1, j2⟩ := Prod.mk.inj j1
                                                obtain ⟨i2, j3⟩ := Prod.mk.inj j2
                                                subst i0
                                                subst i1
                                                subst i2
                                                subst j3
                                                exact X.ireturn (pc := 755) (by decide +kernel) ⟨_, rfl, nz01 (Or.inl rfl)⟩ ⟨rfl, rfl, rfl, rfl, rfl, rfl⟩
                                            · rcases ifb_some h with ⟨hq4_20, h⟩ | ⟨hq4_20, h⟩
                                              · refine X.tabIn (pc := 39) (dflt := 1496) (lo := 0) (hi := 47) (offs := #[205, 230, 255, 268, 281, 306, 343, 380, 417, 454, 515, 540, 553, 578, 591, 604, 617, 630, 655, 680, 717, 742, 767, 792, 829, 866, 879, 904, 929, 954, 979, 1004, 1017, 1042, 1055, 1092, 1153, 1190, 1203, 1217, 1230, 1279, 1304, 1341, 1366, 1391, 1416, 1441]) (len := 205) (off := 717) (tgt := 756) (by decide +kernel) (by rw [hq4_20]; decide +kernel) (by rw [hq4_20]; decide +kernel) (by rw [hq4_20]; decide +kernel) rfl ?_
                                                refine X.aload_1 (pc := 756) (by decide +kernel) ?_
                                                refine X.aload_0 (pc := 757) (by decide +kernel) ?_
                                                refine X.iload_4 (pc := 758) (by decide +kernel) ?_
                                                refine X.iconst (pc := 760) (i := 1) (v := 1) ic_1 (by decide +kernel) ?_
                                                refine X.iadd (pc := 761) (by decide +kernel) ?_
                                                refine X.nameI (fun x287 hx287 => ?_)
                                                have h := lt_at hx287 h
                                                obtain ⟨hi288, h⟩ := asrt_some h
                                                refine X.sld (pc := 762) hX (by decide +kernel) hi288 ?_
                                                obtain ⟨hc289, h⟩ := asrt_some h
                                                obtain ⟨x290, I291, L292, R293, hv294, h⟩ := bnd4_some h
                                                refine X.callVi (pc := 763)  (c_GWL_should hE (dle hd (Nat.le_of_ble_eq_true rfl)) hc289 hv294) cv_Law_105 (by decide +kernel) hc289 ⟨by decide, rfl⟩ (ddd hd (Nat.le_of_ble_eq_true rfl)) rfl (Nat.le_of_ble_eq_true rfl) (Nat.zero_add _).symm (Nat.zero_add _).symm ?_
                                                refine X.aload_2 (pc := 766) (by decide +kernel) ?_
                                                refine X.aload_0 (pc := 767) (by decide +kernel) ?_
                                                refine X.iload_4 (pc := 768) (by decide +kernel) ?_
                                                refine X.iconst (pc := 770) (i := 1) (v := 1) ic_1 (by decide +kernel) ?_
                                                refine X.iadd (pc := 771) (by decide +kernel) ?_
                                                refine X.nameI (fun x295 hx295 => ?_)
                                                have h := lt_at hx295 h
                                                obtain ⟨hi296, h⟩ := asrt_some h
                                                refine X.sld (pc := 772) hX (by decide +kernel) hi296 ?_
                                                obtain ⟨hc297, h⟩ := asrt_some h
                                                obtain ⟨x298, I299, L300, hv301, h⟩ := bnd3_some h
                                                refine X.callVi (pc := 773)  (c_Mod_should hE (dle hd (Nat.le_of_ble_eq_true rfl)) hc297 hv301) cv_Law_108 (by decide +kernel) hc297 ⟨by decide, rfl⟩ (ddd hd (Nat.le_of_ble_eq_true rfl)) rfl (Nat.le_of_ble_eq_true rfl) (Nat.zero_add _).symm (Nat.zero_add _).symm ?_
                                                rcases ifb_some h with ⟨hq302, h⟩ | ⟨hq302, h⟩
                                                · refine X.icmp_eq_t (pc := 776) (off := 759) (tgt := 1535) hq302 rfl (by decide +kernel) ?_
                                                  refine X.iinc_4 (pc := 1535) (z := 5) (v := 5) ic_5 (by decide +kernel) (by decide) rfl ?_
                                                  refine X.goto (pc := 1538) (off := (-1515)) (tgt := 23) (by decide +kernel) rfl ?_
                                                  refine X.widen (nc' := f) (ns' := f * 6) (by omega) (by omega) ?_
                                                  exact ih h
                                                · refine X.icmp_eq_f (pc := 776) (off := 759) (tgt := 1535) hq302 rfl (by decide +kernel) ?_
                                                  refine X.iconst (pc := 779) (i := 0) (v := 0) ic_0 (by decide +kernel) ?_
                                                  have j0 := Option.some.inj h
                                                  obtain ⟨i0, j1⟩ := Prod.mk.inj j0
                                                  obtain ⟨i1, j2⟩ := Prod.mk.inj j1
                                                  obtain ⟨i2, j3⟩ := Prod.mk.inj j2
                                                  subst i0
                                                  subst i1
                                                  subst i2
                                                  subst j3
                                                  exact X.ireturn (pc := 780) (by decide +kernel) ⟨_, rfl, nz01 (Or.inl rfl)⟩ ⟨rfl, rfl, rfl, rfl, rfl, rfl⟩
                                              · rcases ifb_some h with ⟨hq4_21, h⟩ | ⟨hq4_21, h⟩
                                                · refine X.tabIn (pc := 39) (dflt := 1496) (lo := 0) (hi := 47) (offs := #[205, 230, 255, 268, 281, 306, 343, 380, 417, 454, 515, 540, 553, 578, 591, 604, 617, 630, 655, 680, 717, 742, 767, 792, 829, 866, 879, 904, 929, 954, 979, 1004, 1017, 1042, 1055, 1092, 1153, 1190, 1203, 1217, 1230, 1279, 1304, 1341, 1366, 1391, 1416, 1441]) (len := 205) (off := 742) (tgt := 781) (by decide +kernel) (by rw [hq4_21]; decide +kernel) (by rw [hq4_21]; decide +kernel) (by rw [hq4_21]; decide +kernel) rfl ?_
                                                  refine X.aload_1 (pc := 781) (by decide +kernel) ?_
                                                  refine X.aload_0 (pc := 782) (by decide +kernel) ?_
                                                  refine X.iload_4 (pc := 783) (by decide +kernel) ?_
                                                  refine X.iconst (pc := 785) (i := 1) (v := 1) ic_1 (by decide +kernel) ?_
                                                  refine X.iadd (pc := 786) (by decide +kernel) ?_
                                                  refine X.nameI (fun x303 hx303 => ?_)
                                                  have h := lt_at hx303 h
                                                  obtain ⟨hi304, h⟩ := asrt_some h
                                                  refine X.sld (pc := 787) hX (by decide +kernel) hi304 ?_
                                                  obtain ⟨hc305, h⟩ := asrt_some h
                                                  obtain ⟨x306, I307, L308, R309, hv310, h⟩ := bnd4_some h
                                                  refine X.callVi (pc := 788)  (c_GWL_safest hE (dle hd (Nat.le_of_ble_eq_true rfl)) hc305 hv310) cv_Law_109 (by decide +kernel) hc305 ⟨by decide, rfl⟩ (ddd hd (Nat.le_of_ble_eq_true rfl)) rfl (Nat.le_of_ble_eq_true rfl) (Nat.zero_add _).symm (Nat.zero_add _).symm ?_
                                                  refine X.aload_2 (pc := 791) (by decide +kernel) ?_
                                                  refine X.aload_0 (pc := 792) (by decide +kernel) ?_
                                                  refine X.iload_4 (pc := 793) (by decide +kernel) ?_
                                                  refine X.iconst (pc := 795) (i := 1) (v := 1) ic_1 (by decide +kernel) ?_
                                                  refine X.iadd (pc := 796) (by decide +kernel) ?_
                                                  refine X.nameI (fun x311 hx311 => ?_)
                                                  have h := lt_at hx311 h
                                                  obtain ⟨hi312, h⟩ := asrt_some h
                                                  refine X.sld (pc := 797) hX (by decide +kernel) hi312 ?_
                                                  obtain ⟨hc313, h⟩ := asrt_some h
                                                  obtain ⟨x314, I315, L316, hv317, h⟩ := bnd3_some h
                                                  refine X.callVi (pc := 798)  (c_Mod_safest hE (dle hd (Nat.le_of_ble_eq_true rfl)) hc313 hv317) cv_Law_112 (by decide +kernel) hc313 ⟨by decide, rfl⟩ (ddd hd (Nat.le_of_ble_eq_true rfl)) rfl (Nat.le_of_ble_eq_true rfl) (Nat.zero_add _).symm (Nat.zero_add _).symm ?_
                                                  rcases ifb_some h with ⟨hq318, h⟩ | ⟨hq318, h⟩
                                                  · refine X.icmp_eq_t (pc := 801) (off := 734) (tgt := 1535) hq318 rfl (by decide +kernel) ?_
                                                    refine X.iinc_4 (pc := 1535) (z := 5) (v := 5) ic_5 (by decide +kernel) (by decide) rfl ?_
                                                    refine X.goto (pc := 1538) (off := (-1515)) (tgt := 23) (by decide +kernel) rfl ?_
                                                    refine X.widen (nc' := f) (ns' := f * 6) (by omega) (by omega) ?_
                                                    exact ih h
                                                  · refine X.icmp_eq_f (pc := 801) (off := 734) (tgt := 1535) hq318 rfl (by decide +kernel) ?_
                                                    refine X.iconst (pc := 804) (i := 0) (v := 0) ic_0 (by decide +kernel) ?_
                                                    have j0 := Option.some.inj h
                                                    obtain ⟨i0, j1⟩ := Prod.mk.inj j0
                                                    obtain ⟨i1, j2⟩ := Prod.mk.inj j1
                                                    obtain ⟨i2, j3⟩ := Prod.mk.inj j2
                                                    subst i0
                                                    subst i1
                                                    subst i2
                                                    subst j3
                                                    exact X.ireturn (pc := 805) (by decide +kernel) ⟨_, rfl, nz01 (Or.inl rfl)⟩ ⟨rfl, rfl, rfl, rfl, rfl, rfl⟩
                                                · rcases ifb_some h with ⟨hq4_22, h⟩ | ⟨hq4_22, h⟩
                                                  · refine X.tabIn (pc := 39) (dflt := 1496) (lo := 0) (hi := 47) (offs := #[205, 230, 255, 268, 281, 306, 343, 380, 417, 454, 515, 540, 553, 578, 591, 604, 617, 630, 655, 680, 717, 742, 767, 792, 829, 866, 879, 904, 929, 954, 979, 1004, 1017, 1042, 1055, 1092, 1153, 1190, 1203, 1217, 1230, 1279, 1304, 1341, 1366, 1391, 1416, 1441]) (len := 205) (off := 767) (tgt := 806) (by decide +kernel) (by rw [hq4_22]; decide +kernel) (by rw [hq4_22]; decide +kernel) (by rw [hq4_22]; decide +kernel) rfl ?_
                                                    refine X.aload_1 (pc := 806) (by decide +kernel) ?_
                                                    refine X.aload_0 (pc := 807) (by decide +kernel) ?_
                                                    refine X.iload_4 (pc := 808) (by decide +kernel) ?_
                                                    refine X.iconst (pc := 810) (i := 1) (v := 1) ic_1 (by decide +kernel) ?_
                                                    refine X.iadd (pc := 811) (by decide +kernel) ?_
                                                    refine X.nameI (fun x319 hx319 => ?_)
                                                    have h := lt_at hx319 h
                                                    obtain ⟨hi320, h⟩ := asrt_some h
                                                    refine X.sld (pc := 812) hX (by decide +kernel) hi320 ?_
                                                    obtain ⟨hc321, h⟩ := asrt_some h
                                                    obtain ⟨x322, I323, L324, hv325, h⟩ := bnd3_some h
                                                    refine X.callVi (pc := 813)  (c_GWL_perils hE (dle hd (Nat.le_of_ble_eq_true rfl)) hc321 hv325) cv_Law_113 (by decide +kernel) hc321 ⟨by decide, rfl⟩ (ddd hd (Nat.le_of_ble_eq_true rfl)) rfl (Nat.le_of_ble_eq_true rfl) (Nat.zero_add _).symm (Nat.zero_add _).symm ?_
                                                    refine X.aload_2 (pc := 816) (by decide +kernel) ?_
                                                    refine X.aload_0 (pc := 817) (by decide +kernel) ?_
                                                    refine X.iload_4 (pc := 818) (by decide +kernel) ?_
                                                    refine X.iconst (pc := 820) (i := 1) (v := 1) ic_1 (by decide +kernel) ?_
                                                    refine X.iadd (pc := 821) (by decide +kernel) ?_
                                                    refine X.nameI (fun x326 hx326 => ?_)
                                                    have h := lt_at hx326 h
                                                    obtain ⟨hi327, h⟩ := asrt_some h
                                                    refine X.sld (pc := 822) hX (by decide +kernel) hi327 ?_
                                                    obtain ⟨hc328, h⟩ := asrt_some h
                                                    obtain ⟨x329, I330, L331, hv332, h⟩ := bnd3_some h
                                                    refine X.callVi (pc := 823)  (c_Mod_perils hE (dle hd (Nat.le_of_ble_eq_true rfl)) hc328 hv332) cv_Law_116 (by decide +kernel) hc328 ⟨by decide, rfl⟩ (ddd hd (Nat.le_of_ble_eq_true rfl)) rfl (Nat.le_of_ble_eq_true rfl) (Nat.zero_add _).symm (Nat.zero_add _).symm ?_
                                                    rcases ifb_some h with ⟨hq333, h⟩ | ⟨hq333, h⟩
                                                    · refine X.icmp_eq_t (pc := 826) (off := 709) (tgt := 1535) hq333 rfl (by decide +kernel) ?_
                                                      refine X.iinc_4 (pc := 1535) (z := 5) (v := 5) ic_5 (by decide +kernel) (by decide) rfl ?_
                                                      refine X.goto (pc := 1538) (off := (-1515)) (tgt := 23) (by decide +kernel) rfl ?_
                                                      refine X.widen (nc' := f) (ns' := f * 6) (by omega) (by omega) ?_
                                                      exact ih h
                                                    · refine X.icmp_eq_f (pc := 826) (off := 709) (tgt := 1535) hq333 rfl (by decide +kernel) ?_
                                                      refine X.iconst (pc := 829) (i := 0) (v := 0) ic_0 (by decide +kernel) ?_
                                                      have j0 := Option.some.inj h
                                                      obtain ⟨i0, j1⟩ := Prod.mk.inj j0
                                                      obtain ⟨i1, j2⟩ := Prod.mk.inj j1
                                                      obtain ⟨i2, j3⟩ := Prod.mk.inj j2
                                                      subst i0
                                                      subst i1
                                                      subst i2
                                                      subst j3
                                                      exact X.ireturn (pc := 830) (by decide +kernel) ⟨_, rfl, nz01 (Or.inl rfl)⟩ ⟨rfl, rfl, rfl, rfl, rfl, rfl⟩
                                                  · rcases ifb_some h with ⟨hq4_23, h⟩ | ⟨hq4_23, h⟩
                                                    · refine X.tabIn (pc := 39) (dflt := 1496) (lo := 0) (hi := 47) (offs := #[205, 230, 255, 268, 281, 306, 343, 380, 417, 454, 515, 540, 553, 578, 591, 604, 617, 630, 655, 680, 717, 742, 767, 792, 829, 866, 879, 904, 929, 954, 979, 1004, 1017, 1042, 1055, 1092, 1153, 1190, 1203, 1217, 1230, 1279, 1304, 1341, 1366, 1391, 1416, 1441]) (len := 205) (off := 792) (tgt := 831) (by decide +kernel) (by rw [hq4_23]; decide +kernel) (by rw [hq4_23]; decide +kernel) (by rw [hq4_23]; decide +kernel) rfl ?_
                                                      refine X.aload_1 (pc := 831) (by decide +kernel) ?_
                                                      refine X.aload_0 (pc := 832) (by decide +kernel) ?_
                                                      refine X.iload_4 (pc := 833) (by decide +kernel) ?_
                                                      refine X.iconst (pc := 835) (i := 1) (v := 1) ic_1 (by decide +kernel) ?_
                                                      refine X.iadd (pc := 836) (by decide +kernel) ?_
                                                      refine X.nameI (fun x334 hx334 => ?_)
                                                      have h := lt_at hx334 h
                                                      obtain ⟨hi335, h⟩ := asrt_some h
                                                      refine X.sld (pc := 837) hX (by decide +kernel) hi335 ?_
                                                      refine X.aload_0 (pc := 838) (by decide +kernel) ?_
                                                      refine X.iload_4 (pc := 839) (by decide +kernel) ?_
                                                      refine X.iconst (pc := 841) (i := 2) (v := 2) ic_2 (by decide +kernel) ?_
                                                      refine X.iadd (pc := 842) (by decide +kernel) ?_
                                                      refine X.nameI (fun x336 hx336 => ?_)
                                                      have h := lt_at hx336 h
                                                      obtain ⟨hi337, h⟩ := asrt_some h
                                                      refine X.sld (pc := 843) hX (by decide +kernel) hi337 ?_
                                                      obtain ⟨hc338, h⟩ := asrt_some h
                                                      obtain ⟨x339, I340, L341, R342, hv343, h⟩ := bnd4_some h
                                                      refine X.callVi (pc := 844)  (c_GWL_behind hE (dle hd (Nat.le_of_ble_eq_true rfl)) hc338 hv343) cv_Law_117 (by decide +kernel) hc338 ⟨by decide, rfl⟩ (ddd hd (Nat.le_of_ble_eq_true rfl)) rfl (Nat.le_of_ble_eq_true rfl) (Nat.zero_add _).symm (Nat.zero_add _).symm ?_
                                                      refine X.aload_2 (pc := 847) (by decide +kernel) ?_
                                                      refine X.aload_0 (pc := 848) (by decide +kernel) ?_
                                                      refine X.iload_4 (pc := 849) (by decide +kernel) ?_
                                                      refine X.iconst (pc := 851) (i := 1) (v := 1) ic_1 (by decide +kernel) ?_
                                                      refine X.iadd (pc := 852) (by decide +kernel) ?_
                                                      refine X.nameI (fun x344 hx344 => ?_)
                                                      have h := lt_at hx344 h
                                                      obtain ⟨hi345, h⟩ := asrt_some h
                                                      refine X.sld (pc := 853) hX (by decide +kernel) hi345 ?_
                                                      refine X.aload_0 (pc := 854) (by decide +kernel) ?_
                                                      refine X.iload_4 (pc := 855) (by decide +kernel) ?_
                                                      refine X.iconst (pc := 857) (i := 2) (v := 2) ic_2 (by decide +kernel) ?_
                                                      refine X.iadd (pc := 858) (by decide +kernel) ?_
                                                      refine X.nameI (fun x346 hx346 => ?_)
                                                      have h := lt_at hx346 h
                                                      obtain ⟨hi347, h⟩ := asrt_some h
                                                      refine X.sld (pc := 859) hX (by decide +kernel) hi347 ?_
                                                      obtain ⟨hc348, h⟩ := asrt_some h
                                                      obtain ⟨x349, I350, L351, hv352, h⟩ := bnd3_some h
                                                      refine X.callVi (pc := 860)  (c_Mod_behind hE (dle hd (Nat.le_of_ble_eq_true rfl)) hc348 hv352) cv_Law_120 (by decide +kernel) hc348 ⟨by decide, rfl⟩ (ddd hd (Nat.le_of_ble_eq_true rfl)) rfl (Nat.le_of_ble_eq_true rfl) (Nat.zero_add _).symm (Nat.zero_add _).symm ?_
                                                      rcases ifb_some h with ⟨hq353, h⟩ | ⟨hq353, h⟩
                                                      · refine X.icmp_eq_t (pc := 863) (off := 672) (tgt := 1535) hq353 rfl (by decide +kernel) ?_
                                                        refine X.iinc_4 (pc := 1535) (z := 5) (v := 5) ic_5 (by decide +kernel) (by decide) rfl ?_
                                                        refine X.goto (pc := 1538) (off := (-1515)) (tgt := 23) (by decide +kernel) rfl ?_
                                                        refine X.widen (nc' := f) (ns' := f * 6) (by omega) (by omega) ?_
                                                        exact ih h
                                                      · refine X.icmp_eq_f (pc := 863) (off := 672) (tgt := 1535) hq353 rfl (by decide +kernel) ?_
                                                        refine X.iconst (pc := 866) (i := 0) (v := 0) ic_0 (by decide +kernel) ?_
                                                        have j0 := Option.some.inj h
                                                        obtain ⟨i0, j1⟩ := Prod.mk.inj j0
                                                        obtain ⟨i1, j2⟩ := Prod.mk.inj j1
                                                        obtain ⟨i2, j3⟩ := Prod.mk.inj j2
                                                        subst i0
                                                        subst i1
                                                        subst i2
                                                        subst j3
                                                        exact X.ireturn (pc := 867) (by decide +kernel) ⟨_, rfl, nz01 (Or.inl rfl)⟩ ⟨rfl, rfl, rfl, rfl, rfl, rfl⟩
                                                    · rcases ifb_some h with ⟨hq4_24, h⟩ | ⟨hq4_24, h⟩
                                                      · refine X.tabIn (pc := 39) (dflt := 1496) (lo := 0) (hi := 47) (offs := #[205, 230, 255, 268, 281, 306, 343, 380, 417, 454, 515, 540, 553, 578, 591, 604, 617, 630, 655, 680, 717, 742, 767, 792, 829, 866, 879, 904, 929, 954, 979, 1004, 1017, 1042, 1055, 1092, 1153, 1190, 1203, 1217, 1230, 1279, 1304, 1341, 1366, 1391, 1416, 1441]) (len := 205) (off := 829) (tgt := 868) (by decide +kernel) (by rw [hq4_24]; decide +kernel) (by rw [hq4_24]; decide +kernel) (by rw [hq4_24]; decide +kernel) rfl ?_
                                                        refine X.aload_1 (pc := 868) (by decide +kernel) ?_
                                                        refine X.aload_0 (pc := 869) (by decide +kernel) ?_
                                                        refine X.iload_4 (pc := 870) (by decide +kernel) ?_
                                                        refine X.iconst (pc := 872) (i := 1) (v := 1) ic_1 (by decide +kernel) ?_
                                                        refine X.iadd (pc := 873) (by decide +kernel) ?_
                                                        refine X.nameI (fun x354 hx354 => ?_)
                                                        have h := lt_at hx354 h
                                                        obtain ⟨hi355, h⟩ := asrt_some h
                                                        refine X.sld (pc := 874) hX (by decide +kernel) hi355 ?_
                                                        refine X.aload_0 (pc := 875) (by decide +kernel) ?_
                                                        refine X.iload_4 (pc := 876) (by decide +kernel) ?_
                                                        refine X.iconst (pc := 878) (i := 2) (v := 2) ic_2 (by decide +kernel) ?_
                                                        refine X.iadd (pc := 879) (by decide +kernel) ?_
                                                        refine X.nameI (fun x356 hx356 => ?_)
                                                        have h := lt_at hx356 h
                                                        obtain ⟨hi357, h⟩ := asrt_some h
                                                        refine X.sld (pc := 880) hX (by decide +kernel) hi357 ?_
                                                        obtain ⟨hc358, h⟩ := asrt_some h
                                                        obtain ⟨x359, I360, L361, R362, hv363, h⟩ := bnd4_some h
                                                        refine X.callVi (pc := 881)  (c_GWL_loud hE (dle hd (Nat.le_of_ble_eq_true rfl)) hc358 hv363) cv_Law_121 (by decide +kernel) hc358 ⟨by decide, rfl⟩ (ddd hd (Nat.le_of_ble_eq_true rfl)) rfl (Nat.le_of_ble_eq_true rfl) (Nat.zero_add _).symm (Nat.zero_add _).symm ?_
                                                        refine X.aload_2 (pc := 884) (by decide +kernel) ?_
                                                        refine X.aload_0 (pc := 885) (by decide +kernel) ?_
                                                        refine X.iload_4 (pc := 886) (by decide +kernel) ?_
                                                        refine X.iconst (pc := 888) (i := 1) (v := 1) ic_1 (by decide +kernel) ?_
                                                        refine X.iadd (pc := 889) (by decide +kernel) ?_
                                                        refine X.nameI (fun x364 hx364 => ?_)
                                                        have h := lt_at hx364 h
                                                        obtain ⟨hi365, h⟩ := asrt_some h
                                                        refine X.sld (pc := 890) hX (by decide +kernel) hi365 ?_
                                                        refine X.aload_0 (pc := 891) (by decide +kernel) ?_
                                                        refine X.iload_4 (pc := 892) (by decide +kernel) ?_
                                                        refine X.iconst (pc := 894) (i := 2) (v := 2) ic_2 (by decide +kernel) ?_
                                                        refine X.iadd (pc := 895) (by decide +kernel) ?_
                                                        refine X.nameI (fun x366 hx366 => ?_)
                                                        have h := lt_at hx366 h
                                                        obtain ⟨hi367, h⟩ := asrt_some h
                                                        refine X.sld (pc := 896) hX (by decide +kernel) hi367 ?_
                                                        obtain ⟨hc368, h⟩ := asrt_some h
                                                        obtain ⟨x369, I370, L371, hv372, h⟩ := bnd3_some h
                                                        refine X.callVi (pc := 897)  (c_Mod_loud hE (dle hd (Nat.le_of_ble_eq_true rfl)) hc368 hv372) cv_Law_124 (by decide +kernel) hc368 ⟨by decide, rfl⟩ (ddd hd (Nat.le_of_ble_eq_true rfl)) rfl (Nat.le_of_ble_eq_true rfl) (Nat.zero_add _).symm (Nat.zero_add _).symm ?_
                                                        rcases ifb_some h with ⟨hq373, h⟩ | ⟨hq373, h⟩
                                                        · refine X.icmp_eq_t (pc := 900) (off := 635) (tgt := 1535) hq373 rfl (by decide +kernel) ?_
                                                          refine X.iinc_4 (pc := 1535) (z := 5) (v := 5) ic_5 (by decide +kernel) (by decide) rfl ?_
                                                          refine X.goto (pc := 1538) (off := (-1515)) (tgt := 23) (by decide +kernel) rfl ?_
                                                          refine X.widen (nc' := f) (ns' := f * 6) (by omega) (by omega) ?_
                                                          exact ih h
                                                        · refine X.icmp_eq_f (pc := 900) (off := 635) (tgt := 1535) hq373 rfl (by decide +kernel) ?_
                                                          refine X.iconst (pc := 903) (i := 0) (v := 0) ic_0 (by decide +kernel) ?_
                                                          have j0 := Option.some.inj h
                                                          obtain ⟨i0, j1⟩ := Prod.mk.inj j0
                                                          obtain ⟨i1, j2⟩ := Prod.mk.inj j1
                                                          obtain ⟨i2, j3⟩ := Prod.mk.inj j2
                                                          subst i0
                                                          subst i1
                                                          subst i2
                                                          subst j3
                                                          exact X.ireturn (pc := 904) (by decide +kernel) ⟨_, rfl, nz01 (Or.inl rfl)⟩ ⟨rfl, rfl, rfl, rfl, rfl, rfl⟩
                                                      · rcases ifb_some h with ⟨hq4_25, h⟩ | ⟨hq4_25, h⟩
                                                        · refine X.tabIn (pc := 39) (dflt := 1496) (lo := 0) (hi := 47) (offs := #[205, 230, 255, 268, 281, 306, 343, 380, 417, 454, 515, 540, 553, 578, 591, 604, 617, 630, 655, 680, 717, 742, 767, 792, 829, 866, 879, 904, 929, 954, 979, 1004, 1017, 1042, 1055, 1092, 1153, 1190, 1203, 1217, 1230, 1279, 1304, 1341, 1366, 1391, 1416, 1441]) (len := 205) (off := 866) (tgt := 905) (by decide +kernel) (by rw [hq4_25]; decide +kernel) (by rw [hq4_25]; decide +kernel) (by rw [hq4_25]; decide +kernel) rfl ?_
                                                          refine X.aload_1 (pc := 905) (by decide +kernel) ?_
                                                          obtain ⟨hc374, h⟩ := asrt_some h
                                                          obtain ⟨x375, hv376, h⟩ := bnd1_some h
                                                          refine X.callVi (pc := 906)  (c_GWL_owed hE (dle hd (Nat.le_of_ble_eq_true rfl)) hc374 hv376) cv_Law_125 (by decide +kernel) hc374 ⟨by decide, rfl⟩ (ddd hd (Nat.le_of_ble_eq_true rfl)) rfl (Nat.le_of_ble_eq_true rfl) (Nat.zero_add _).symm (Nat.zero_add _).symm ?_
                                                          refine X.aload_2 (pc := 909) (by decide +kernel) ?_
                                                          obtain ⟨hc377, h⟩ := asrt_some h
                                                          obtain ⟨x378, I379, hv380, h⟩ := bnd2_some h
                                                          refine X.callVi (pc := 910)  (c_Mod_owed hE (dle hd (Nat.le_of_ble_eq_true rfl)) hc377 hv380) cv_Law_128 (by decide +kernel) hc377 ⟨by decide, rfl⟩ (ddd hd (Nat.le_of_ble_eq_true rfl)) rfl (Nat.le_of_ble_eq_true rfl) (Nat.zero_add _).symm (Nat.zero_add _).symm ?_
                                                          rcases ifb_some h with ⟨hq381, h⟩ | ⟨hq381, h⟩
                                                          · refine X.icmp_eq_t (pc := 913) (off := 622) (tgt := 1535) hq381 rfl (by decide +kernel) ?_
                                                            refine X.iinc_4 (pc := 1535) (z := 5) (v := 5) ic_5 (by decide +kernel) (by decide) rfl ?_
                                                            refine X.goto (pc := 1538) (off := (-1515)) (tgt := 23) (by decide +kernel) rfl ?_
                                                            refine X.widen (nc' := f) (ns' := f * 6) (by omega) (by omega) ?_
                                                            exact ih h
                                                          · refine X.icmp_eq_f (pc := 913) (off := 622) (tgt := 1535) hq381 rfl (by decide +kernel) ?_
                                                            refine X.iconst (pc := 916) (i := 0) (v := 0) ic_0 (by decide +kernel) ?_
                                                            have j0 := Option.some.inj h
                                                            obtain ⟨i0, j1⟩ := Prod.mk.inj j0
                                                            obtain ⟨i1, j2⟩ := Prod.mk.inj j1
                                                            obtain ⟨i2, j3⟩ := Prod.mk.inj j2
                                                            subst i0
                                                            subst i1
                                                            subst i2
                                                            subst j3
                                                            exact X.ireturn (pc := 917) (by decide +kernel) ⟨_, rfl, nz01 (Or.inl rfl)⟩ ⟨rfl, rfl, rfl, rfl, rfl, rfl⟩
                                                        · rcases ifb_some h with ⟨hq4_26, h⟩ | ⟨hq4_26, h⟩
                                                          · refine X.tabIn (pc := 39) (dflt := 1496) (lo := 0) (hi := 47) (offs := #[205, 230, 255, 268, 281, 306, 343, 380, 417, 454, 515, 540, 553, 578, 591, 604, 617, 630, 655, 680, 717, 742, 767, 792, 829, 866, 879, 904, 929, 954, 979, 1004, 1017, 1042, 1055, 1092, 1153, 1190, 1203, 1217, 1230, 1279, 1304, 1341, 1366, 1391, 1416, 1441]) (len := 205) (off := 879) (tgt := 918) (by decide +kernel) (by rw [hq4_26]; decide +kernel) (by rw [hq4_26]; decide +kernel) (by rw [hq4_26]; decide +kernel) rfl ?_
                                                            refine X.aload_1 (pc := 918) (by decide +kernel) ?_
                                                            refine X.aload_0 (pc := 919) (by decide +kernel) ?_
                                                            refine X.iload_4 (pc := 920) (by decide +kernel) ?_
                                                            refine X.iconst (pc := 922) (i := 1) (v := 1) ic_1 (by decide +kernel) ?_
                                                            refine X.iadd (pc := 923) (by decide +kernel) ?_
                                                            refine X.nameI (fun x382 hx382 => ?_)
                                                            have h := lt_at hx382 h
                                                            obtain ⟨hi383, h⟩ := asrt_some h
                                                            refine X.sld (pc := 924) hX (by decide +kernel) hi383 ?_
                                                            obtain ⟨hc384, h⟩ := asrt_some h
                                                            obtain ⟨x385, I386, L387, R388, hv389, h⟩ := bnd4_some h
                                                            refine X.callVi (pc := 925)  (c_GWL_greed hE (dle hd (Nat.le_of_ble_eq_true rfl)) hc384 hv389) cv_Law_129 (by decide +kernel) hc384 ⟨by decide, rfl⟩ (ddd hd (Nat.le_of_ble_eq_true rfl)) rfl (Nat.le_of_ble_eq_true rfl) (Nat.zero_add _).symm (Nat.zero_add _).symm ?_
                                                            refine X.aload_2 (pc := 928) (by decide +kernel) ?_
                                                            refine X.aload_0 (pc := 929) (by decide +kernel) ?_
                                                            refine X.iload_4 (pc := 930) (by decide +kernel) ?_
                                                            refine X.iconst (pc := 932) (i := 1) (v := 1) ic_1 (by decide +kernel) ?_
                                                            refine X.iadd (pc := 933) (by decide +kernel) ?_
                                                            refine X.nameI (fun x390 hx390 => ?_)
                                                            have h := lt_at hx390 h
                                                            obtain ⟨hi391, h⟩ := asrt_some h
                                                            refine X.sld (pc := 934) hX (by decide +kernel) hi391 ?_
                                                            obtain ⟨hc392, h⟩ := asrt_some h
                                                            obtain ⟨x393, I394, L395, hv396, h⟩ := bnd3_some h
                                                            refine X.callVi (pc := 935)  (c_Mod_greed hE (dle hd (Nat.le_of_ble_eq_true rfl)) hc392 hv396) cv_Law_132 (by decide +kernel) hc392 ⟨by decide, rfl⟩ (ddd hd (Nat.le_of_ble_eq_true rfl)) rfl (Nat.le_of_ble_eq_true rfl) (Nat.zero_add _).symm (Nat.zero_add _).symm ?_
                                                            rcases ifb_some h with ⟨hq397, h⟩ | ⟨hq397, h⟩
                                                            · refine X.icmp_eq_t (pc := 938) (off := 597) (tgt := 1535) hq397 rfl (by decide +kernel) ?_
                                                              refine X.iinc_4 (pc := 1535) (z := 5) (v := 5) ic_5 (by decide +kernel) (by decide) rfl ?_
                                                              refine X.goto (pc := 1538) (off := (-1515)) (tgt := 23) (by decide +kernel) rfl ?_
                                                              refine X.widen (nc' := f) (ns' := f * 6) (by omega) (by omega) ?_
                                                              exact ih h
                                                            · refine X.icmp_eq_f (pc := 938) (off := 597) (tgt := 1535) hq397 rfl (by decide +kernel) ?_
                                                              refine X.iconst (pc := 941) (i := 0) (v := 0) ic_0 (by decide +kernel) ?_
                                                              have j0 := Option.some.inj h
                                                              obtain ⟨i0, j1⟩ := Prod.mk.inj j0
                                                              obtain ⟨i1, j2⟩ := Prod.mk.inj j1
                                                              obtain ⟨i2, j3⟩ := Prod.mk.inj j2
                                                              subst i0
                                                              subst i1
                                                              subst i2
                                                              subst j3
                                                              exact X.ireturn (pc := 942) (by decide +kernel) ⟨_, rfl, nz01 (Or.inl rfl)⟩ ⟨rfl, rfl, rfl, rfl, rfl, rfl⟩
                                                          · rcases ifb_some h with ⟨hq4_27, h⟩ | ⟨hq4_27, h⟩
                                                            · refine X.tabIn (pc := 39) (dflt := 1496) (lo := 0) (hi := 47) (offs := #[205, 230, 255, 268, 281, 306, 343, 380, 417, 454, 515, 540, 553, 578, 591, 604, 617, 630, 655, 680, 717, 742, 767, 792, 829, 866, 879, 904, 929, 954, 979, 1004, 1017, 1042, 1055, 1092, 1153, 1190, 1203, 1217, 1230, 1279, 1304, 1341, 1366, 1391, 1416, 1441]) (len := 205) (off := 904) (tgt := 943) (by decide +kernel) (by rw [hq4_27]; decide +kernel) (by rw [hq4_27]; decide +kernel) (by rw [hq4_27]; decide +kernel) rfl ?_
                                                              refine X.aload_1 (pc := 943) (by decide +kernel) ?_
                                                              refine X.aload_0 (pc := 944) (by decide +kernel) ?_
                                                              refine X.iload_4 (pc := 945) (by decide +kernel) ?_
                                                              refine X.iconst (pc := 947) (i := 1) (v := 1) ic_1 (by decide +kernel) ?_
                                                              refine X.iadd (pc := 948) (by decide +kernel) ?_
                                                              refine X.nameI (fun x398 hx398 => ?_)
                                                              have h := lt_at hx398 h
                                                              obtain ⟨hi399, h⟩ := asrt_some h
                                                              refine X.sld (pc := 949) hX (by decide +kernel) hi399 ?_
                                                              obtain ⟨hc400, h⟩ := asrt_some h
                                                              obtain ⟨x401, I402, L403, R404, hv405, h⟩ := bnd4_some h
                                                              refine X.callVi (pc := 950)  (c_GWL_honest hE (dle hd (Nat.le_of_ble_eq_true rfl)) hc400 hv405) cv_Law_133 (by decide +kernel) hc400 ⟨by decide, rfl⟩ (ddd hd (Nat.le_of_ble_eq_true rfl)) rfl (Nat.le_of_ble_eq_true rfl) (Nat.zero_add _).symm (Nat.zero_add _).symm ?_
                                                              refine X.aload_2 (pc := 953) (by decide +kernel) ?_
                                                              refine X.aload_0 (pc := 954) (by decide +kernel) ?_
                                                              refine X.iload_4 (pc := 955) (by decide +kernel) ?_
                                                              refine X.iconst (pc := 957) (i := 1) (v := 1) ic_1 (by decide +kernel) ?_
                                                              refine X.iadd (pc := 958) (by decide +kernel) ?_
                                                              refine X.nameI (fun x406 hx406 => ?_)
                                                              have h := lt_at hx406 h
                                                              obtain ⟨hi407, h⟩ := asrt_some h
                                                              refine X.sld (pc := 959) hX (by decide +kernel) hi407 ?_
                                                              obtain ⟨hc408, h⟩ := asrt_some h
                                                              obtain ⟨x409, I410, L411, hv412, h⟩ := bnd3_some h
                                                              refine X.callVi (pc := 960)  (c_Mod_honest hE (dle hd (Nat.le_of_ble_eq_true rfl)) hc408 hv412) cv_Law_136 (by decide +kernel) hc408 ⟨by decide, rfl⟩ (ddd hd (Nat.le_of_ble_eq_true rfl)) rfl (Nat.le_of_ble_eq_true rfl) (Nat.zero_add _).symm (Nat.zero_add _).symm ?_
                                                              rcases ifb_some h with ⟨hq413, h⟩ | ⟨hq413, h⟩
                                                              · refine X.icmp_eq_t (pc := 963) (off := 572) (tgt := 1535) hq413 rfl (by decide +kernel) ?_
                                                                refine X.iinc_4 (pc := 1535) (z := 5) (v := 5) ic_5 (by decide +kernel) (by decide) rfl ?_
                                                                refine X.goto (pc := 1538) (off := (-1515)) (tgt := 23) (by decide +kernel) rfl ?_
                                                                refine X.widen (nc' := f) (ns' := f * 6) (by omega) (by omega) ?_
                                                                exact ih h
                                                              · refine X.icmp_eq_f (pc := 963) (off := 572) (tgt := 1535) hq413 rfl (by decide +kernel) ?_
                                                                refine X.iconst (pc := 966) (i := 0) (v := 0) ic_0 (by decide +kernel) ?_
                                                                have j0 := Option.some.inj h
                                                                obtain ⟨i0, j1⟩ := Prod.mk.inj j0
                                                                obtain ⟨i1, j2⟩ := Prod.mk.inj j1
                                                                obtain ⟨i2, j3⟩ := Prod.mk.inj j2
                                                                subst i0
                                                                subst i1
                                                                subst i2
                                                                subst j3
                                                                exact X.ireturn (pc := 967) (by decide +kernel) ⟨_, rfl, nz01 (Or.inl rfl)⟩ ⟨rfl, rfl, rfl, rfl, rfl, rfl⟩
                                                            · rcases ifb_some h with ⟨hq4_28, h⟩ | ⟨hq4_28, h⟩
                                                              · refine X.tabIn (pc := 39) (dflt := 1496) (lo := 0) (hi := 47) (offs := #[205, 230, 255, 268, 281, 306, 343, 380, 417, 454, 515, 540, 553, 578, 591, 604, 617, 630, 655, 680, 717, 742, 767, 792, 829, 866, 879, 904, 929, 954, 979, 1004, 1017, 1042, 1055, 1092, 1153, 1190, 1203, 1217, 1230, 1279, 1304, 1341, 1366, 1391, 1416, 1441]) (len := 205) (off := 929) (tgt := 968) (by decide +kernel) (by rw [hq4_28]; decide +kernel) (by rw [hq4_28]; decide +kernel) (by rw [hq4_28]; decide +kernel) rfl ?_
                                                                refine X.aload_1 (pc := 968) (by decide +kernel) ?_
                                                                refine X.aload_0 (pc := 969) (by decide +kernel) ?_
                                                                refine X.iload_4 (pc := 970) (by decide +kernel) ?_
                                                                refine X.iconst (pc := 972) (i := 1) (v := 1) ic_1 (by decide +kernel) ?_
                                                                refine X.iadd (pc := 973) (by decide +kernel) ?_
                                                                refine X.nameI (fun x414 hx414 => ?_)
                                                                have h := lt_at hx414 h
                                                                obtain ⟨hi415, h⟩ := asrt_some h
                                                                refine X.sld (pc := 974) hX (by decide +kernel) hi415 ?_
                                                                obtain ⟨hc416, h⟩ := asrt_some h
                                                                obtain ⟨x417, I418, hv419, h⟩ := bnd2_some h
                                                                refine X.callVi (pc := 975)  (c_GWL_shelf hE (dle hd (Nat.le_of_ble_eq_true rfl)) hc416 hv419) cv_Law_137 (by decide +kernel) hc416 ⟨by decide, rfl⟩ (ddd hd (Nat.le_of_ble_eq_true rfl)) rfl (Nat.le_of_ble_eq_true rfl) (Nat.zero_add _).symm (Nat.zero_add _).symm ?_
                                                                refine X.aload_2 (pc := 978) (by decide +kernel) ?_
                                                                refine X.aload_0 (pc := 979) (by decide +kernel) ?_
                                                                refine X.iload_4 (pc := 980) (by decide +kernel) ?_
                                                                refine X.iconst (pc := 982) (i := 1) (v := 1) ic_1 (by decide +kernel) ?_
                                                                refine X.iadd (pc := 983) (by decide +kernel) ?_
                                                                refine X.nameI (fun x420 hx420 => ?_)
                                                                have h := lt_at hx420 h
                                                                obtain ⟨hi421, h⟩ := asrt_some h
                                                                refine X.sld (pc := 984) hX (by decide +kernel) hi421 ?_
                                                                obtain ⟨hc422, h⟩ := asrt_some h
                                                                obtain ⟨x423, I424, hv425, h⟩ := bnd2_some h
                                                                refine X.callVi (pc := 985)  (c_Mod_shelf hE (dle hd (Nat.le_of_ble_eq_true rfl)) hc422 hv425) cv_Law_140 (by decide +kernel) hc422 ⟨by decide, rfl⟩ (ddd hd (Nat.le_of_ble_eq_true rfl)) rfl (Nat.le_of_ble_eq_true rfl) (Nat.zero_add _).symm (Nat.zero_add _).symm ?_
                                                                rcases ifb_some h with ⟨hq426, h⟩ | ⟨hq426, h⟩
                                                                · refine X.icmp_eq_t (pc := 988) (off := 547) (tgt := 1535) hq426 rfl (by decide +kernel) ?_
                                                                  refine X.iinc_4 (pc := 1535) (z := 5) (v := 5) ic_5 (by decide +kernel) (by decide) rfl ?_
                                                                  refine X.goto (pc := 1538) (off := (-1515)) (tgt := 23) (by decide +kernel) rfl ?_
                                                                  refine X.widen (nc' := f) (ns' := f * 6) (by omega) (by omega) ?_
                                                                  exact ih h
                                                                · refine X.icmp_eq_f (pc := 988) (off := 547) (tgt := 1535) hq426 rfl (by decide +kernel) ?_
                                                                  refine X.iconst (pc := 991) (i := 0) (v := 0) ic_0 (by decide +kernel) ?_
                                                                  have j0 := Option.some.inj h
                                                                  obtain ⟨i0, j1⟩ := Prod.mk.inj j0
                                                                  obtain ⟨i1, j2⟩ := Prod.mk.inj j1
                                                                  obtain ⟨i2, j3⟩ := Prod.mk.inj j2
                                                                  subst i0
                                                                  subst i1
                                                                  subst i2
                                                                  subst j3
                                                                  exact X.ireturn (pc := 992) (by decide +kernel) ⟨_, rfl, nz01 (Or.inl rfl)⟩ ⟨rfl, rfl, rfl, rfl, rfl, rfl⟩
                                                              · rcases ifb_some h with ⟨hq4_29, h⟩ | ⟨hq4_29, h⟩
                                                                · refine X.tabIn (pc := 39) (dflt := 1496) (lo := 0) (hi := 47) (offs := #[205, 230, 255, 268, 281, 306, 343, 380, 417, 454, 515, 540, 553, 578, 591, 604, 617, 630, 655, 680, 717, 742, 767, 792, 829, 866, 879, 904, 929, 954, 979, 1004, 1017, 1042, 1055, 1092, 1153, 1190, 1203, 1217, 1230, 1279, 1304, 1341, 1366, 1391, 1416, 1441]) (len := 205) (off := 954) (tgt := 993) (by decide +kernel) (by rw [hq4_29]; decide +kernel) (by rw [hq4_29]; decide +kernel) (by rw [hq4_29]; decide +kernel) rfl ?_
                                                                  refine X.aload_1 (pc := 993) (by decide +kernel) ?_
                                                                  refine X.aload_0 (pc := 994) (by decide +kernel) ?_
                                                                  refine X.iload_4 (pc := 995) (by decide +kernel) ?_
                                                                  refine X.iconst (pc := 997) (i := 1) (v := 1) ic_1 (by decide +kernel) ?_
                                                                  refine X.iadd (pc := 998) (by decide +kernel) ?_
                                                                  refine X.nameI (fun x427 hx427 => ?_)
                                                                  have h := lt_at hx427 h
                                                                  obtain ⟨hi428, h⟩ := asrt_some h
                                                                  refine X.sld (pc := 999) hX (by decide +kernel) hi428 ?_
                                                                  obtain ⟨hc429, h⟩ := asrt_some h
                                                                  obtain ⟨x430, I431, L432, R433, hv434, h⟩ := bnd4_some h
                                                                  refine X.callVi (pc := 1000)  (c_GWL_fairest hE (dle hd (Nat.le_of_ble_eq_true rfl)) hc429 hv434) cv_Law_141 (by decide +kernel) hc429 ⟨by decide, rfl⟩ (ddd hd (Nat.le_of_ble_eq_true rfl)) rfl (Nat.le_of_ble_eq_true rfl) (Nat.zero_add _).symm (Nat.zero_add _).symm ?_
                                                                  refine X.aload_2 (pc := 1003) (by decide +kernel) ?_
                                                                  refine X.aload_0 (pc := 1004) (by decide +kernel) ?_
                                                                  refine X.iload_4 (pc := 1005) (by decide +kernel) ?_
                                                                  refine X.iconst (pc := 1007) (i := 1) (v := 1) ic_1 (by decide +kernel) ?_
                                                                  refine X.iadd (pc := 1008) (by decide +kernel) ?_
                                                                  refine X.nameI (fun x435 hx435 => ?_)
                                                                  have h := lt_at hx435 h
                                                                  obtain ⟨hi436, h⟩ := asrt_some h
                                                                  refine X.sld (pc := 1009) hX (by decide +kernel) hi436 ?_
                                                                  obtain ⟨hc437, h⟩ := asrt_some h
                                                                  obtain ⟨x438, I439, L440, hv441, h⟩ := bnd3_some h
                                                                  refine X.callVi (pc := 1010)  (c_Mod_fairest hE (dle hd (Nat.le_of_ble_eq_true rfl)) hc437 hv441) cv_Law_144 (by decide +kernel) hc437 ⟨by decide, rfl⟩ (ddd hd (Nat.le_of_ble_eq_true rfl)) rfl (Nat.le_of_ble_eq_true rfl) (Nat.zero_add _).symm (Nat.zero_add _).symm ?_
                                                                  rcases ifb_some h with ⟨hq442, h⟩ | ⟨hq442, h⟩
                                                                  · refine X.icmp_eq_t (pc := 1013) (off := 522) (tgt := 1535) hq442 rfl (by decide +kernel) ?_
                                                                    refine X.iinc_4 (pc := 1535) (z := 5) (v := 5) ic_5 (by decide +kernel) (by decide) rfl ?_
                                                                    refine X.goto (pc := 1538) (off := (-1515)) (tgt := 23) (by decide +kernel) rfl ?_
                                                                    refine X.widen (nc' := f) (ns' := f * 6) (by omega) (by omega) ?_
                                                                    exact ih h
                                                                  · refine X.icmp_eq_f (pc := 1013) (off := 522) (tgt := 1535) hq442 rfl (by decide +kernel) ?_
                                                                    refine X.iconst (pc := 1016) (i := 0) (v := 0) ic_0 (by decide +kernel) ?_
                                                                    have j0 := Option.some.inj h
                                                                    obtain ⟨i0, j1⟩ := Prod.mk.inj j0
                                                                    obtain ⟨i1, j2⟩ := Prod.mk.inj j1
                                                                    obtain ⟨i2, j3⟩ := Prod.mk.inj j2
                                                                    subst i0
                                                                    subst i1
                                                                    subst i2
                                                                    subst j3
                                                                    exact X.ireturn (pc := 1017) (by decide +kernel) ⟨_, rfl, nz01 (Or.inl rfl)⟩ ⟨rfl, rfl, rfl, rfl, rfl, rfl⟩
                                                                · rcases ifb_some h with ⟨hq4_30, h⟩ | ⟨hq4_30, h⟩
                                                                  · refine X.tabIn (pc := 39) (dflt := 1496) (lo := 0) (hi := 47) (offs := #[205, 230, 255, 268, 281, 306, 343, 380, 417, 454, 515, 540, 553, 578, 591, 604, 617, 630, 655, 680, 717, 742, 767, 792, 829, 866, 879, 904, 929, 954, 979, 1004, 1017, 1042, 1055, 1092, 1153, 1190, 1203, 1217, 1230, 1279, 1304, 1341, 1366, 1391, 1416, 1441]) (len := 205) (off := 979) (tgt := 1018) (by decide +kernel) (by rw [hq4_30]; decide +kernel) (by rw [hq4_30]; decide +kernel) (by rw [hq4_30]; decide +kernel) rfl ?_
                                                                    refine X.aload_1 (pc := 1018) (by decide +kernel) ?_
                                                                    refine X.aload_0 (pc := 1019) (by decide +kernel) ?_
                                                                    refine X.iload_4 (pc := 1020) (by decide +kernel) ?_
                                                                    refine X.iconst (pc := 1022) (i := 1) (v := 1) ic_1 (by decide +kernel) ?_
                                                                    refine X.iadd (pc := 1023) (by decide +kernel) ?_
                                                                    refine X.nameI (fun x443 hx443 => ?_)
                                                                    have h := lt_at hx443 h
                                                                    obtain ⟨hi444, h⟩ := asrt_some h
                                                                    refine X.sld (pc := 1024) hX (by decide +kernel) hi444 ?_
                                                                    obtain ⟨hc445, h⟩ := asrt_some h
                                                                    obtain ⟨x446, hv447, h⟩ := bnd1_some h
                                                                    refine X.callVi (pc := 1025)  (c_GWL_track hE (dle hd (Nat.le_of_ble_eq_true rfl)) hc445 hv447) cv_Law_145 (by decide +kernel) hc445 ⟨by decide, rfl⟩ (ddd hd (Nat.le_of_ble_eq_true rfl)) rfl (Nat.le_of_ble_eq_true rfl) (Nat.zero_add _).symm (Nat.zero_add _).symm ?_
                                                                    refine X.aload_2 (pc := 1028) (by decide +kernel) ?_
                                                                    refine X.aload_0 (pc := 1029) (by decide +kernel) ?_
                                                                    refine X.iload_4 (pc := 1030) (by decide +kernel) ?_
                                                                    refine X.iconst (pc := 1032) (i := 1) (v := 1) ic_1 (by decide +kernel) ?_
                                                                    refine X.iadd (pc := 1033) (by decide +kernel) ?_
                                                                    refine X.nameI (fun x448 hx448 => ?_)
                                                                    have h := lt_at hx448 h
                                                                    obtain ⟨hi449, h⟩ := asrt_some h
                                                                    refine X.sld (pc := 1034) hX (by decide +kernel) hi449 ?_
                                                                    obtain ⟨hc450, h⟩ := asrt_some h
                                                                    obtain ⟨x451, I452, hv453, h⟩ := bnd2_some h
                                                                    refine X.callVi (pc := 1035)  (c_Mod_track hE (dle hd (Nat.le_of_ble_eq_true rfl)) hc450 hv453) cv_Law_148 (by decide +kernel) hc450 ⟨by decide, rfl⟩ (ddd hd (Nat.le_of_ble_eq_true rfl)) rfl (Nat.le_of_ble_eq_true rfl) (Nat.zero_add _).symm (Nat.zero_add _).symm ?_
                                                                    rcases ifb_some h with ⟨hq454, h⟩ | ⟨hq454, h⟩
                                                                    · refine X.icmp_eq_t (pc := 1038) (off := 497) (tgt := 1535) hq454 rfl (by decide +kernel) ?_
                                                                      refine X.iinc_4 (pc := 1535) (z := 5) (v := 5) ic_5 (by decide +kernel) (by decide) rfl ?_
                                                                      refine X.goto (pc := 1538) (off := (-1515)) (tgt := 23) (by decide +kernel) rfl ?_
                                                                      refine X.widen (nc' := f) (ns' := f * 6) (by omega) (by omega) ?_
                                                                      exact ih h
                                                                    · refine X.icmp_eq_f (pc := 1038) (off := 497) (tgt := 1535) hq454 rfl (by decide +kernel) ?_
                                                                      refine X.iconst (pc := 1041) (i := 0) (v := 0) ic_0 (by decide +kernel) ?_
                                                                      have j0 := Option.some.inj h
                                                                      obtain ⟨i0, j1⟩ := Prod.mk.inj j0
                                                                      obtain ⟨i1, j2⟩ := Prod.mk.inj j1
                                                                      obtain ⟨i2, j3⟩ := Prod.mk.inj j2
                                                                      subst i0
                                                                      subst i1
                                                                      subst i2
                                                                      subst j3
                                                                      exact X.ireturn (pc := 1042) (by decide +kernel) ⟨_, rfl, nz01 (Or.inl rfl)⟩ ⟨rfl, rfl, rfl, rfl, rfl, rfl⟩
                                                                  · rcases ifb_some h with ⟨hq4_31, h⟩ | ⟨hq4_31, h⟩
                                                                    · refine X.tabIn (pc := 39) (dflt := 1496) (lo := 0) (hi := 47) (offs := #[205, 230, 255, 268, 281, 306, 343, 380, 417, 454, 515, 540, 553, 578, 591, 604, 617, 630, 655, 680, 717, 742, 767, 792, 829, 866, 879, 904, 929, 954, 979, 1004, 1017, 1042, 1055, 1092, 1153, 1190, 1203, 1217, 1230, 1279, 1304, 1341, 1366, 1391, 1416, 1441]) (len := 205) (off := 1004) (tgt := 1043) (by decide +kernel) (by rw [hq4_31]; decide +kernel) (by rw [hq4_31]; decide +kernel) (by rw [hq4_31]; decide +kernel) rfl ?_
                                                                      refine X.aload_1 (pc := 1043) (by decide +kernel) ?_
                                                                      obtain ⟨hc455, h⟩ := asrt_some h
                                                                      obtain ⟨x456, I457, hv458, h⟩ := bnd2_some h
                                                                      refine X.callVi (pc := 1044)  (c_GWL_rain hE (dle hd (Nat.le_of_ble_eq_true rfl)) hc455 hv458) cv_Law_149 (by decide +kernel) hc455 ⟨by decide, rfl⟩ (ddd hd (Nat.le_of_ble_eq_true rfl)) rfl (Nat.le_of_ble_eq_true rfl) (Nat.zero_add _).symm (Nat.zero_add _).symm ?_
                                                                      refine X.aload_2 (pc := 1047) (by decide +kernel) ?_
                                                                      obtain ⟨hc459, h⟩ := asrt_some h
                                                                      obtain ⟨x460, I461, hv462, h⟩ := bnd2_some h
                                                                      refine X.callVi (pc := 1048)  (c_Mod_rain hE (dle hd (Nat.le_of_ble_eq_true rfl)) hc459 hv462) cv_Law_152 (by decide +kernel) hc459 ⟨by decide, rfl⟩ (ddd hd (Nat.le_of_ble_eq_true rfl)) rfl (Nat.le_of_ble_eq_true rfl) (Nat.zero_add _).symm (Nat.zero_add _).symm ?_
                                                                      rcases ifb_some h with ⟨hq463, h⟩ | ⟨hq463, h⟩
                                                                      · refine X.icmp_eq_t (pc := 1051) (off := 484) (tgt := 1535) hq463 rfl (by decide +kernel) ?_
                                                                        refine X.iinc_4 (pc := 1535) (z := 5) (v := 5) ic_5 (by decide +kernel) (by decide) rfl ?_
                                                                        refine X.goto (pc := 1538) (off := (-1515)) (tgt := 23) (by decide +kernel) rfl ?_
                                                                        refine X.widen (nc' := f) (ns' := f * 6) (by omega) (by omega) ?_
                                                                        exact ih h
                                                                      · refine X.icmp_eq_f (pc := 1051) (off := 484) (tgt := 1535) hq463 rfl (by decide +kernel) ?_
                                                                        refine X.iconst (pc := 1054) (i := 0) (v := 0) ic_0 (by decide +kernel) ?_
                                                                        have j0 := Option.some.inj h
                                                                        obtain ⟨i0, j1⟩ := Prod.mk.inj j0
                                                                        obtain ⟨i1, j2⟩ := Prod.mk.inj j1
                                                                        obtain ⟨i2, j3⟩ := Prod.mk.inj j2
                                                                        subst i0
                                                                        subst i1
                                                                        subst i2
                                                                        subst j3
                                                                        exact X.ireturn (pc := 1055) (by decide +kernel) ⟨_, rfl, nz01 (Or.inl rfl)⟩ ⟨rfl, rfl, rfl, rfl, rfl, rfl⟩
                                                                    · rcases ifb_some h with ⟨hq4_32, h⟩ | ⟨hq4_32, h⟩
                                                                      · refine X.tabIn (pc := 39) (dflt := 1496) (lo := 0) (hi := 47) (offs := #[205, 230, 255, 268, 281, 306, 343, 380, 417, 454, 515, 540, 553, 578, 591, 604, 617, 630, 655, 680, 717, 742, 767, 792, 829, 866, 879, 904, 929, 954, 979, 1004, 1017, 1042, 1055, 1092, 1153, 1190, 1203, 1217, 1230, 1279, 1304, 1341, 1366, 1391, 1416, 1441]) (len := 205) (off := 1017) (tgt := 1056) (by decide +kernel) (by rw [hq4_32]; decide +kernel) (by rw [hq4_32]; decide +kernel) (by rw [hq4_32]; decide +kernel) rfl ?_
                                                                        refine X.aload_1 (pc := 1056) (by decide +kernel) ?_
                                                                        refine X.aload_0 (pc := 1057) (by decide +kernel) ?_
                                                                        refine X.iload_4 (pc := 1058) (by decide +kernel) ?_
                                                                        refine X.iconst (pc := 1060) (i := 1) (v := 1) ic_1 (by decide +kernel) ?_
                                                                        refine X.iadd (pc := 1061) (by decide +kernel) ?_
                                                                        refine X.nameI (fun x464 hx464 => ?_)
                                                                        have h := lt_at hx464 h
                                                                        obtain ⟨hi465, h⟩ := asrt_some h
                                                                        refine X.sld (pc := 1062) hX (by decide +kernel) hi465 ?_
                                                                        obtain ⟨hc466, h⟩ := asrt_some h
                                                                        obtain ⟨x467, I468, L469, hv470, h⟩ := bnd3_some h
                                                                        refine X.callVi (pc := 1063)  (c_GWL_follow hE (dle hd (Nat.le_of_ble_eq_true rfl)) hc466 hv470) cv_Law_153 (by decide +kernel) hc466 ⟨by decide, rfl⟩ (ddd hd (Nat.le_of_ble_eq_true rfl)) rfl (Nat.le_of_ble_eq_true rfl) (Nat.zero_add _).symm (Nat.zero_add _).symm ?_
                                                                        refine X.aload_2 (pc := 1066) (by decide +kernel) ?_
                                                                        refine X.aload_0 (pc := 1067) (by decide +kernel) ?_
                                                                        refine X.iload_4 (pc := 1068) (by decide +kernel) ?_
                                                                        refine X.iconst (pc := 1070) (i := 1) (v := 1) ic_1 (by decide +kernel) ?_
                                                                        refine X.iadd (pc := 1071) (by decide +kernel) ?_
                                                                        refine X.nameI (fun x471 hx471 => ?_)
                                                                        have h := lt_at hx471 h
                                                                        obtain ⟨hi472, h⟩ := asrt_some h
                                                                        refine X.sld (pc := 1072) hX (by decide +kernel) hi472 ?_
                                                                        obtain ⟨hc473, h⟩ := asrt_some h
                                                                        obtain ⟨x474, I475, L476, hv477, h⟩ := bnd3_some h
                                                                        refine X.callVi (pc := 1073)  (c_Mod_follow hE (dle hd (Nat.le_of_ble_eq_true rfl)) hc473 hv477) cv_Law_156 (by decide +kernel) hc473 ⟨by decide, rfl⟩ (ddd hd (Nat.le_of_ble_eq_true rfl)) rfl (Nat.le_of_ble_eq_true rfl) (Nat.zero_add _).symm (Nat.zero_add _).symm ?_
                                                                        rcases ifb_some h with ⟨hq478, h⟩ | ⟨hq478, h⟩
                                                                        · refine X.icmp_eq_t (pc := 1076) (off := 459) (tgt := 1535) hq478 rfl (by decide +kernel) ?_
                                                                          refine X.iinc_4 (pc := 1535) (z := 5) (v := 5) ic_5 (by decide +kernel) (by decide) rfl ?_
                                                                          refine X.goto (pc := 1538) (off := (-1515)) (tgt := 23) (by decide +kernel) rfl ?_
                                                                          refine X.widen (nc' := f) (ns' := f * 6) (by omega) (by omega) ?_
                                                                          exact ih h
                                                                        · refine X.icmp_eq_f (pc := 1076) (off := 459) (tgt := 1535) hq478 rfl (by decide +kernel) ?_
                                                                          refine X.iconst (pc := 1079) (i := 0) (v := 0) ic_0 (by decide +kernel) ?_
                                                                          have j0 := Option.some.inj h
                                                                          obtain ⟨i0, j1⟩ := Prod.mk.inj j0
                                                                          obtain ⟨i1, j2⟩ := Prod.mk.inj j1
                                                                          obtain ⟨i2, j3⟩ := Prod.mk.inj j2
                                                                          subst i0
                                                                          subst i1
                                                                          subst i2
                                                                          subst j3
                                                                          exact X.ireturn (pc := 1080) (by decide +kernel) ⟨_, rfl, nz01 (Or.inl rfl)⟩ ⟨rfl, rfl, rfl, rfl, rfl, rfl⟩
                                                                      · rcases ifb_some h with ⟨hq4_33, h⟩ | ⟨hq4_33, h⟩
                                                                        · refine X.tabIn (pc := 39) (dflt := 1496) (lo := 0) (hi := 47) (offs := #[205, 230, 255, 268, 281, 306, 343, 380, 417, 454, 515, 540, 553, 578, 591, 604, 617, 630, 655, 680, 717, 742, 767, 792, 829, 866, 879, 904, 929, 954, 979, 1004, 1017, 1042, 1055, 1092, 1153, 1190, 1203, 1217, 1230, 1279, 1304, 1341, 1366, 1391, 1416, 1441]) (len := 205) (off := 1042) (tgt := 1081) (by decide +kernel) (by rw [hq4_33]; decide +kernel) (by rw [hq4_33]; decide +kernel) (by rw [hq4_33]; decide +kernel) rfl ?_
                                                                          refine X.aload_1 (pc := 1081) (by decide +kernel) ?_
                                                                          obtain ⟨hc479, h⟩ := asrt_some h
                                                                          obtain ⟨x480, I481, L482, hv483, h⟩ := bnd3_some h
                                                                          refine X.callVi (pc := 1082)  (c_GWL_warned hE (dle hd (Nat.le_of_ble_eq_true rfl)) hc479 hv483) cv_Law_157 (by decide +kernel) hc479 ⟨by decide, rfl⟩ (ddd hd (Nat.le_of_ble_eq_true rfl)) rfl (Nat.le_of_ble_eq_true rfl) (Nat.zero_add _).symm (Nat.zero_add _).symm ?_
                                                                          refine X.aload_2 (pc := 1085) (by decide +kernel) ?_
                                                                          obtain ⟨hc484, h⟩ := asrt_some h
                                                                          obtain ⟨x485, I486, L487, hv488, h⟩ := bnd3_some h
                                                                          refine X.callVi (pc := 1086)  (c_Mod_warned hE (dle hd (Nat.le_of_ble_eq_true rfl)) hc484 hv488) cv_Law_160 (by decide +kernel) hc484 ⟨by decide, rfl⟩ (ddd hd (Nat.le_of_ble_eq_true rfl)) rfl (Nat.le_of_ble_eq_true rfl) (Nat.zero_add _).symm (Nat.zero_add _).symm ?_
                                                                          rcases ifb_some h with ⟨hq489, h⟩ | ⟨hq489, h⟩
                                                                          · refine X.icmp_eq_t (pc := 1089) (off := 446) (tgt := 1535) hq489 rfl (by decide +kernel) ?_
                                                                            refine X.iinc_4 (pc := 1535) (z := 5) (v := 5) ic_5 (by decide +kernel) (by decide) rfl ?_
                                                                            refine X.goto (pc := 1538) (off := (-1515)) (tgt := 23) (by decide +kernel) rfl ?_
                                                                            refine X.widen (nc' := f) (ns' := f * 6) (by omega) (by omega) ?_
                                                                            exact ih h
                                                                          · refine X.icmp_eq_f (pc := 1089) (off := 446) (tgt := 1535) hq489 rfl (by decide +kernel) ?_
                                                                            refine X.iconst (pc := 1092) (i := 0) (v := 0) ic_0 (by decide +kernel) ?_
                                                                            have j0 := Option.some.inj h
                                                                            obtain ⟨i0, j1⟩ := Prod.mk.inj j0
                                                                            obtain ⟨i1, j2⟩ := Prod.mk.inj j1
                                                                            obtain ⟨i2, j3⟩ := Prod.mk.inj j2
                                                                            subst i0
                                                                            subst i1
                                                                            subst i2
                                                                            subst j3
                                                                            exact X.ireturn (pc := 1093) (by decide +kernel) ⟨_, rfl, nz01 (Or.inl rfl)⟩ ⟨rfl, rfl, rfl, rfl, rfl, rfl⟩
                                                                        · rcases ifb_some h with ⟨hq4_34, h⟩ | ⟨hq4_34, h⟩
                                                                          · refine X.tabIn (pc := 39) (dflt := 1496) (lo := 0) (hi := 47) (offs := #[205, 230, 255, 268, 281, 306, 343, 380, 417, 454, 515, 540, 553, 578, 591, 604, 617, 630, 655, 680, 717, 742, 767, 792, 829, 866, 879, 904, 929, 954, 979, 1004, 1017, 1042, 1055, 1092, 1153, 1190, 1203, 1217, 1230, 1279, 1304, 1341, 1366, 1391, 1416, 1441]) (len := 205) (off := 1055) (tgt := 1094) (by decide +kernel) (by rw [hq4_34]; decide +kernel) (by rw [hq4_34]; decide +kernel) (by rw [hq4_34]; decide +kernel) rfl ?_
                                                                            refine X.aload_1 (pc := 1094) (by decide +kernel) ?_
                                                                            refine X.aload_0 (pc := 1095) (by decide +kernel) ?_
                                                                            refine X.iload_4 (pc := 1096) (by decide +kernel) ?_
                                                                            refine X.iconst (pc := 1098) (i := 1) (v := 1) ic_1 (by decide +kernel) ?_
                                                                            refine X.iadd (pc := 1099) (by decide +kernel) ?_
                                                                            refine X.nameI (fun x490 hx490 => ?_)
                                                                            have h := lt_at hx490 h
                                                                            obtain ⟨hi491, h⟩ := asrt_some h
                                                                            refine X.sld (pc := 1100) hX (by decide +kernel) hi491 ?_
                                                                            refine X.aload_0 (pc := 1101) (by decide +kernel) ?_
                                                                            refine X.iload_4 (pc := 1102) (by decide +kernel) ?_
                                                                            refine X.iconst (pc := 1104) (i := 2) (v := 2) ic_2 (by decide +kernel) ?_
                                                                            refine X.iadd (pc := 1105) (by decide +kernel) ?_
                                                                            refine X.nameI (fun x492 hx492 => ?_)
                                                                            have h := lt_at hx492 h
                                                                            obtain ⟨hi493, h⟩ := asrt_some h
                                                                            refine X.sld (pc := 1106) hX (by decide +kernel) hi493 ?_
                                                                            obtain ⟨hc494, h⟩ := asrt_some h
                                                                            obtain ⟨x495, I496, L497, hv498, h⟩ := bnd3_some h
                                                                            refine X.callVi (pc := 1107)  (c_GWL_codes hE (dle hd (Nat.le_of_ble_eq_true rfl)) hc494 hv498) cv_Law_161 (by decide +kernel) hc494 ⟨by decide, rfl⟩ (ddd hd (Nat.le_of_ble_eq_true rfl)) rfl (Nat.le_of_ble_eq_true rfl) (Nat.zero_add _).symm (Nat.zero_add _).symm ?_
                                                                            refine X.aload_2 (pc := 1110) (by decide +kernel) ?_
                                                                            refine X.aload_0 (pc := 1111) (by decide +kernel) ?_
                                                                            refine X.iload_4 (pc := 1112) (by decide +kernel) ?_
                                                                            refine X.iconst (pc := 1114) (i := 1) (v := 1) ic_1 (by decide +kernel) ?_
                                                                            refine X.iadd (pc := 1115) (by decide +kernel) ?_
                                                                            refine X.nameI (fun x499 hx499 => ?_)
                                                                            have h := lt_at hx499 h
                                                                            obtain ⟨hi500, h⟩ := asrt_some h
                                                                            refine X.sld (pc := 1116) hX (by decide +kernel) hi500 ?_
                                                                            refine X.aload_0 (pc := 1117) (by decide +kernel) ?_
                                                                            refine X.iload_4 (pc := 1118) (by decide +kernel) ?_
                                                                            refine X.iconst (pc := 1120) (i := 2) (v := 2) ic_2 (by decide +kernel) ?_
                                                                            refine X.iadd (pc := 1121) (by decide +kernel) ?_
                                                                            refine X.nameI (fun x501 hx501 => ?_)
                                                                            have h := lt_at hx501 h
                                                                            obtain ⟨hi502, h⟩ := asrt_some h
                                                                            refine X.sld (pc := 1122) hX (by decide +kernel) hi502 ?_
                                                                            obtain ⟨hc503, h⟩ := asrt_some h
                                                                            obtain ⟨x504, I505, L506, hv507, h⟩ := bnd3_some h
                                                                            refine X.callVi (pc := 1123)  (c_Mod_codes hE (dle hd (Nat.le_of_ble_eq_true rfl)) hc503 hv507) cv_Law_164 (by decide +kernel) hc503 ⟨by decide, rfl⟩ (ddd hd (Nat.le_of_ble_eq_true rfl)) rfl (Nat.le_of_ble_eq_true rfl) (Nat.zero_add _).symm (Nat.zero_add _).symm ?_
                                                                            rcases ifb_some h with ⟨hq508, h⟩ | ⟨hq508, h⟩
                                                                            · refine X.icmp_eq_t (pc := 1126) (off := 409) (tgt := 1535) hq508 rfl (by decide +kernel) ?_
                                                                              refine X.iinc_4 (pc := 1535) (z := 5) (v := 5) ic_5 (by decide +kernel) (by decide) rfl ?_
                                                                              refine X.goto (pc := 1538) (off := (-1515)) (tgt := 23) (by decide +kernel) rfl ?_
                                                                              refine X.widen (nc' := f) (ns' := f * 6) (by omega) (by omega) ?_
                                                                              exact ih h
                                                                            · refine X.icmp_eq_f (pc := 1126) (off := 409) (tgt := 1535) hq508 rfl (by decide +kernel) ?_
                                                                              refine X.iconst (pc := 1129) (i := 0) (v := 0) ic_0 (by decide +kernel) ?_
                                                                              have j0 := Option.some.inj h
                                                                              obtain ⟨i0, j1⟩ := Prod.mk.inj j0
                                                                              obtain ⟨i1, j2⟩ := Prod.mk.inj j1
                                                                              obtain ⟨i2, j3⟩ := Prod.mk.inj j2
                                                                              subst i0
                                                                              subst i1
                                                                              subst i2
                                                                              subst j3
                                                                              exact X.ireturn (pc := 1130) (by decide +kernel) ⟨_, rfl, nz01 (Or.inl rfl)⟩ ⟨rfl, rfl, rfl, rfl, rfl, rfl⟩
                                                                          · rcases ifb_some h with ⟨hq4_35, h⟩ | ⟨hq4_35, h⟩
                                                                            · refine X.tabIn (pc := 39) (dflt := 1496) (lo := 0) (hi := 47) (offs := #[205, 230, 255, 268, 281, 306, 343, 380, 417, 454, 515, 540, 553, 578, 591, 604, 617, 630, 655, 680, 717, 742, 767, 792, 829, 866, 879, 904, 929, 954, 979, 1004, 1017, 1042, 1055, 1092, 1153, 1190, 1203, 1217, 1230, 1279, 1304, 1341, 1366, 1391, 1416, 1441]) (len := 205) (off := 1092) (tgt := 1131) (by decide +kernel) (by rw [hq4_35]; decide +kernel) (by rw [hq4_35]; decide +kernel) (by rw [hq4_35]; decide +kernel) rfl ?_
                                                                              refine X.aload_1 (pc := 1131) (by decide +kernel) ?_
                                                                              refine X.aload_0 (pc := 1132) (by decide +kernel) ?_
                                                                              refine X.iload_4 (pc := 1133) (by decide +kernel) ?_
                                                                              refine X.iconst (pc := 1135) (i := 1) (v := 1) ic_1 (by decide +kernel) ?_
                                                                              refine X.iadd (pc := 1136) (by decide +kernel) ?_
                                                                              refine X.nameI (fun x509 hx509 => ?_)
                                                                              have h := lt_at hx509 h
                                                                              obtain ⟨hi510, h⟩ := asrt_some h
                                                                              refine X.sld (pc := 1137) hX (by decide +kernel) hi510 ?_
                                                                              refine X.aload_0 (pc := 1138) (by decide +kernel) ?_
                                                                              refine X.iload_4 (pc := 1139) (by decide +kernel) ?_
                                                                              refine X.iconst (pc := 1141) (i := 2) (v := 2) ic_2 (by decide +kernel) ?_
                                                                              refine X.iadd (pc := 1142) (by decide +kernel) ?_
                                                                              refine X.nameI (fun x511 hx511 => ?_)
                                                                              have h := lt_at hx511 h
                                                                              obtain ⟨hi512, h⟩ := asrt_some h
                                                                              refine X.sld (pc := 1143) hX (by decide +kernel) hi512 ?_
                                                                              refine X.aload_0 (pc := 1144) (by decide +kernel) ?_
                                                                              refine X.iload_4 (pc := 1145) (by decide +kernel) ?_
                                                                              refine X.iconst (pc := 1147) (i := 3) (v := 3) ic_3 (by decide +kernel) ?_
                                                                              refine X.iadd (pc := 1148) (by decide +kernel) ?_
                                                                              refine X.nameI (fun x513 hx513 => ?_)
                                                                              have h := lt_at hx513 h
                                                                              obtain ⟨hi514, h⟩ := asrt_some h
                                                                              refine X.sld (pc := 1149) hX (by decide +kernel) hi514 ?_
                                                                              refine X.aload_0 (pc := 1150) (by decide +kernel) ?_
                                                                              refine X.iload_4 (pc := 1151) (by decide +kernel) ?_
                                                                              refine X.iconst (pc := 1153) (i := 4) (v := 4) ic_4 (by decide +kernel) ?_
                                                                              refine X.iadd (pc := 1154) (by decide +kernel) ?_
                                                                              refine X.nameI (fun x515 hx515 => ?_)
                                                                              have h := lt_at hx515 h
                                                                              obtain ⟨hi516, h⟩ := asrt_some h
                                                                              refine X.sld (pc := 1155) hX (by decide +kernel) hi516 ?_
                                                                              obtain ⟨hc517, h⟩ := asrt_some h
                                                                              obtain ⟨x518, hv519, h⟩ := bnd1_some h
                                                                              refine X.callVi (pc := 1156)  (c_GWL_meant hE (dle hd (Nat.le_of_ble_eq_true rfl)) hc517 hv519) cv_Law_165 (by decide +kernel) hc517 ⟨by decide, rfl⟩ (ddd hd (Nat.le_of_ble_eq_true rfl)) rfl (Nat.le_of_ble_eq_true rfl) (Nat.zero_add _).symm (Nat.zero_add _).symm ?_
                                                                              refine X.aload_2 (pc := 1159) (by decide +kernel) ?_
                                                                              refine X.aload_0 (pc := 1160) (by decide +kernel) ?_
                                                                              refine X.iload_4 (pc := 1161) (by decide +kernel) ?_
                                                                              refine X.iconst (pc := 1163) (i := 1) (v := 1) ic_1 (by decide +kernel) ?_
                                                                              refine X.iadd (pc := 1164) (by decide +kernel) ?_
                                                                              refine X.nameI (fun x520 hx520 => ?_)
                                                                              have h := lt_at hx520 h
                                                                              obtain ⟨hi521, h⟩ := asrt_some h
                                                                              refine X.sld (pc := 1165) hX (by decide +kernel) hi521 ?_
                                                                              refine X.aload_0 (pc := 1166) (by decide +kernel) ?_
                                                                              refine X.iload_4 (pc := 1167) (by decide +kernel) ?_
                                                                              refine X.iconst (pc := 1169) (i := 2) (v := 2) ic_2 (by decide +kernel) ?_
                                                                              refine X.iadd (pc := 1170) (by decide +kernel) ?_
                                                                              refine X.nameI (fun x522 hx522 => ?_)
                                                                              have h := lt_at hx522 h
                                                                              obtain ⟨hi523, h⟩ := asrt_some h
                                                                              refine X.sld (pc := 1171) hX (by decide +kernel) hi523 ?_
                                                                              refine X.aload_0 (pc := 1172) (by decide +kernel) ?_
                                                                              refine X.iload_4 (pc := 1173) (by decide +kernel) ?_
                                                                              refine X.iconst (pc := 1175) (i := 3) (v := 3) ic_3 (by decide +kernel) ?_
                                                                              refine X.iadd (pc := 1176) (by decide +kernel) ?_
                                                                              refine X.nameI (fun x524 hx524 => ?_)
                                                                              have h := lt_at hx524 h
                                                                              obtain ⟨hi525, h⟩ := asrt_some h
                                                                              refine X.sld (pc := 1177) hX (by decide +kernel) hi525 ?_
                                                                              refine X.aload_0 (pc := 1178) (by decide +kernel) ?_
                                                                              refine X.iload_4 (pc := 1179) (by decide +kernel) ?_
                                                                              refine X.iconst (pc := 1181) (i := 4) (v := 4) ic_4 (by decide +kernel) ?_
                                                                              refine X.iadd (pc := 1182) (by decide +kernel) ?_
                                                                              refine X.nameI (fun x526 hx526 => ?_)
                                                                              have h := lt_at hx526 h
                                                                              obtain ⟨hi527, h⟩ := asrt_some h
                                                                              refine X.sld (pc := 1183) hX (by decide +kernel) hi527 ?_
                                                                              obtain ⟨hc528, h⟩ := asrt_some h
                                                                              obtain ⟨x529, I530, hv531, h⟩ := bnd2_some h
                                                                              refine X.callVi (pc := 1184)  (c_Mod_meant hE (dle hd (Nat.le_of_ble_eq_true rfl)) hc528 hv531) cv_Law_168 (by decide +kernel) hc528 ⟨by decide, rfl⟩ (ddd hd (Nat.le_of_ble_eq_true rfl)) rfl (Nat.le_of_ble_eq_true rfl) (Nat.zero_add _).symm (Nat.zero_add _).symm ?_
                                                                              rcases ifb_some h with ⟨hq532, h⟩ | ⟨hq532, h⟩
                                                                              · refine X.icmp_eq_t (pc := 1187) (off := 348) (tgt := 1535) hq532 rfl (by decide +kernel) ?_
                                                                                refine X.iinc_4 (pc := 1535) (z := 5) (v := 5) ic_5 (by decide +kernel) (by decide) rfl ?_
                                                                                refine X.goto (pc := 1538) (off := (-1515)) (tgt := 23) (by decide +kernel) rfl ?_
                                                                                refine X.widen (nc' := f) (ns' := f * 6) (by omega) (by omega) ?_
                                                                                exact ih h
                                                                              · refine X.icmp_eq_f (pc := 1187) (off := 348) (tgt := 1535) hq532 rfl (by decide +kernel) ?_
                                                                                refine X.iconst (pc := 1190) (i := 0) (v := 0) ic_0 (by decide +kernel) ?_
                                                                                have j0 := Option.some.inj h
                                                                                obtain ⟨i0, j1⟩ := Prod.mk.inj j0
                                                                                obtain ⟨i1, j2⟩ := Prod.mk.inj j1
                                                                                obtain ⟨i2, j3⟩ := Prod.mk.inj j2
                                                                                subst i0
                                                                                subst i1
                                                                                subst i2
                                                                                subst j3
                                                                                exact X.ireturn (pc := 1191) (by decide +kernel) ⟨_, rfl, nz01 (Or.inl rfl)⟩ ⟨rfl, rfl, rfl, rfl, rfl, rfl⟩
                                                                            · rcases ifb_some h with ⟨hq4_36, h⟩ | ⟨hq4_36, h⟩
                                                                              · refine X.tabIn (pc := 39) (dflt := 1496) (lo := 0) (hi := 47) (offs := #[205, 230, 255, 268, 281, 306, 343, 380, 417, 454, 515, 540, 553, 578, 591, 604, 617, 630, 655, 680, 717, 742, 767, 792, 829, 866, 879, 904, 929, 954, 979, 1004, 1017, 1042, 1055, 1092, 1153, 1190, 1203, 1217, 1230, 1279, 1304, 1341, 1366, 1391, 1416, 1441]) (len := 205) (off := 1153) (tgt := 1192) (by decide +kernel) (by rw [hq4_36]; decide +kernel) (by rw [hq4_36]; decide +kernel) (by rw [hq4_36]; decide +kernel) rfl ?_
                                                                                refine X.aload_1 (pc := 1192) (by decide +kernel) ?_
                                                                                refine X.aload_0 (pc := 1193) (by decide +kernel) ?_
                                                                                refine X.iload_4 (pc := 1194) (by decide +kernel) ?_
                                                                                refine X.iconst (pc := 1196) (i := 1) (v := 1) ic_1 (by decide +kernel) ?_
                                                                                refine X.iadd (pc := 1197) (by decide +kernel) ?_
                                                                                refine X.nameI (fun x533 hx533 => ?_)
                                                                                have h := lt_at hx533 h
                                                                                obtain ⟨hi534, h⟩ := asrt_some h
                                                                                refine X.sld (pc := 1198) hX (by decide +kernel) hi534 ?_
                                                                                refine X.aload_0 (pc := 1199) (by decide +kernel) ?_
                                                                                refine X.iload_4 (pc := 1200) (by decide +kernel) ?_
                                                                                refine X.iconst (pc := 1202) (i := 2) (v := 2) ic_2 (by decide +kernel) ?_
                                                                                refine X.iadd (pc := 1203) (by decide +kernel) ?_
                                                                                refine X.nameI (fun x535 hx535 => ?_)
                                                                                have h := lt_at hx535 h
                                                                                obtain ⟨hi536, h⟩ := asrt_some h
                                                                                refine X.sld (pc := 1204) hX (by decide +kernel) hi536 ?_
                                                                                obtain ⟨hc537, h⟩ := asrt_some h
                                                                                obtain ⟨x538, I539, hv540, h⟩ := bnd2_some h
                                                                                refine X.callVi (pc := 1205)  (c_GWL_print hE (dle hd (Nat.le_of_ble_eq_true rfl)) hc537 hv540) cv_Law_169 (by decide +kernel) hc537 ⟨by decide, rfl⟩ (ddd hd (Nat.le_of_ble_eq_true rfl)) rfl (Nat.le_of_ble_eq_true rfl) (Nat.zero_add _).symm (Nat.zero_add _).symm ?_
                                                                                refine X.aload_2 (pc := 1208) (by decide +kernel) ?_
                                                                                refine X.aload_0 (pc := 1209) (by decide +kernel) ?_
                                                                                refine X.iload_4 (pc := 1210) (by decide +kernel) ?_
                                                                                refine X.iconst (pc := 1212) (i := 1) (v := 1) ic_1 (by decide +kernel) ?_
                                                                                refine X.iadd (pc := 1213) (by decide +kernel) ?_
                                                                                refine X.nameI (fun x541 hx541 => ?_)
                                                                                have h := lt_at hx541 h
                                                                                obtain ⟨hi542, h⟩ := asrt_some h
                                                                                refine X.sld (pc := 1214) hX (by decide +kernel) hi542 ?_
                                                                                refine X.aload_0 (pc := 1215) (by decide +kernel) ?_
                                                                                refine X.iload_4 (pc := 1216) (by decide +kernel) ?_
                                                                                refine X.iconst (pc := 1218) (i := 2) (v := 2) ic_2 (by decide +kernel) ?_
                                                                                refine X.iadd (pc := 1219) (by decide +kernel) ?_
                                                                                refine X.nameI (fun x543 hx543 => ?_)
                                                                                have h := lt_at hx543 h
                                                                                obtain ⟨hi544, h⟩ := asrt_some h
                                                                                refine X.sld (pc := 1220) hX (by decide +kernel) hi544 ?_
                                                                                obtain ⟨hc545, h⟩ := asrt_some h
                                                                                obtain ⟨x546, I547, hv548, h⟩ := bnd2_some h
                                                                                refine X.callVi (pc := 1221)  (c_Mod_print hE (dle hd (Nat.le_of_ble_eq_true rfl)) hc545 hv548) cv_Law_172 (by decide +kernel) hc545 ⟨by decide, rfl⟩ (ddd hd (Nat.le_of_ble_eq_true rfl)) rfl (Nat.le_of_ble_eq_true rfl) (Nat.zero_add _).symm (Nat.zero_add _).symm ?_
                                                                                rcases ifb_some h with ⟨hq549, h⟩ | ⟨hq549, h⟩
                                                                                · refine X.icmp_eq_t (pc := 1224) (off := 311) (tgt := 1535) hq549 rfl (by decide +kernel) ?_
                                                                                  refine X.iinc_4 (pc := 1535) (z := 5) (v := 5) ic_5 (by decide +kernel) (by decide) rfl ?_
                                                                                  refine X.goto (pc := 1538) (off := (-1515)) (tgt := 23) (by decide +kernel) rfl ?_
                                                                                  refine X.widen (nc' := f) (ns' := f * 6) (by omega) (by omega) ?_
                                                                                  exact ih h
                                                                                · refine X.icmp_eq_f (pc := 1224) (off := 311) (tgt := 1535) hq549 rfl (by decide +kernel) ?_
                                                                                  refine X.iconst (pc := 1227) (i := 0) (v := 0) ic_0 (by decide +kernel) ?_
                                                                                  have j0 := Option.some.inj h
                                                                                  obtain ⟨i0, j1⟩ := Prod.mk.inj j0
                                                                                  obtain ⟨i1, j2⟩ := Prod.mk.inj j1
                                                                                  obtain ⟨i2, j3⟩ := Prod.mk.inj j2
                                                                                  subst i0
                                                                                  subst i1
                                                                                  subst i2
                                                                                  subst j3
                                                                                  exact X.ireturn (pc := 1228) (by decide +kernel) ⟨_, rfl, nz01 (Or.inl rfl)⟩ ⟨rfl, rfl, rfl, rfl, rfl, rfl⟩
                                                                              · rcases ifb_some h with ⟨hq4_37, h⟩ | ⟨hq4_37, h⟩
                                                                                · refine X.tabIn (pc := 39) (dflt := 1496) (lo := 0) (hi := 47) (offs := #[205, 230, 255, 268, 281, 306, 343, 380, 417, 454, 515, 540, 553, 578, 591, 604, 617, 630, 655, 680, 717, 742, 767, 792, 829, 866, 879, 904, 929, 954, 979, 1004, 1017, 1042, 1055, 1092, 1153, 1190, 1203, 1217, 1230, 1279, 1304, 1341, 1366, 1391, 1416, 1441]) (len := 205) (off := 1190) (tgt := 1229) (by decide +kernel) (by rw [hq4_37]; decide +kernel) (by rw [hq4_37]; decide +kernel) (by rw [hq4_37]; decide +kernel) rfl ?_
                                                                                  refine X.aload_1 (pc := 1229) (by decide +kernel) ?_
                                                                                  obtain ⟨hc550, h⟩ := asrt_some h
                                                                                  obtain ⟨x551, I552, hv553, h⟩ := bnd2_some h
                                                                                  refine X.callVi (pc := 1230)  (c_GWL_wipe hE (dle hd (Nat.le_of_ble_eq_true rfl)) hc550 hv553) cv_Law_173 (by decide +kernel) hc550 ⟨by decide, rfl⟩ (ddd hd (Nat.le_of_ble_eq_true rfl)) rfl (Nat.le_of_ble_eq_true rfl) (Nat.zero_add _).symm (Nat.zero_add _).symm ?_
                                                                                  refine X.aload_2 (pc := 1233) (by decide +kernel) ?_
                                                                                  obtain ⟨hc554, h⟩ := asrt_some h
                                                                                  obtain ⟨x555, I556, hv557, h⟩ := bnd2_some h
                                                                                  refine X.callVi (pc := 1234)  (c_Mod_wipe hE (dle hd (Nat.le_of_ble_eq_true rfl)) hc554 hv557) cv_Law_176 (by decide +kernel) hc554 ⟨by decide, rfl⟩ (ddd hd (Nat.le_of_ble_eq_true rfl)) rfl (Nat.le_of_ble_eq_true rfl) (Nat.zero_add _).symm (Nat.zero_add _).symm ?_
                                                                                  rcases ifb_some h with ⟨hq558, h⟩ | ⟨hq558, h⟩
                                                                                  · refine X.icmp_eq_t (pc := 1237) (off := 298) (tgt := 1535) hq558 rfl (by decide +kernel) ?_
                                                                                    refine X.iinc_4 (pc := 1535) (z := 5) (v := 5) ic_5 (by decide +kernel) (by decide) rfl ?_
                                                                                    refine X.goto (pc := 1538) (off := (-1515)) (tgt := 23) (by decide +kernel) rfl ?_
                                                                                    refine X.widen (nc' := f) (ns' := f * 6) (by omega) (by omega) ?_
                                                                                    exact ih h
                                                                                  · refine X.icmp_eq_f (pc := 1237) (off := 298) (tgt := 1535) hq558 rfl (by decide +kernel) ?_
                                                                                    refine X.iconst (pc := 1240) (i := 0) (v := 0) ic_0 (by decide +kernel) ?_
                                                                                    have j0 := Option.some.inj h
                                                                                    obtain ⟨i0, j1⟩ := Prod.mk.inj j0
                                                                                    obtain ⟨i1, j2⟩ := Prod.mk.inj j1
                                                                                    obtain ⟨i2, j3⟩ := Prod.mk.inj j2
                                                                                    subst i0
                                                                                    subst i1
                                                                                    subst i2
                                                                                    subst j3
                                                                                    exact X.ireturn (pc := 1241) (by decide +kernel) ⟨_, rfl, nz01 (Or.inl rfl)⟩ ⟨rfl, rfl, rfl, rfl, rfl, rfl⟩
                                                                                · rcases ifb_some h with ⟨hq4_38, h⟩ | ⟨hq4_38, h⟩
                                                                                  · refine X.tabIn (pc := 39) (dflt := 1496) (lo := 0) (hi := 47) (offs := #[205, 230, 255, 268, 281, 306, 343, 380, 417, 454, 515, 540, 553, 578, 591, 604, 617, 630, 655, 680, 717, 742, 767, 792, 829, 866, 879, 904, 929, 954, 979, 1004, 1017, 1042, 1055, 1092, 1153, 1190, 1203, 1217, 1230, 1279, 1304, 1341, 1366, 1391, 1416, 1441]) (len := 205) (off := 1203) (tgt := 1242) (by decide +kernel) (by rw [hq4_38]; decide +kernel) (by rw [hq4_38]; decide +kernel) (by rw [hq4_38]; decide +kernel) rfl ?_
                                                                                    refine X.aload_1 (pc := 1242) (by decide +kernel) ?_
                                                                                    obtain ⟨hc559, h⟩ := asrt_some h
                                                                                    obtain ⟨x560, I561, L562, hv563, h⟩ := bnd3_some h
                                                                                    refine X.callVl (pc := 1243)  (c_GWL_rows hE (dle hd (Nat.le_of_ble_eq_true rfl)) hc559 hv563) cv_Law_177 (by decide +kernel) hc559 ⟨by decide, rfl⟩ (ddd hd (Nat.le_of_ble_eq_true rfl)) rfl (Nat.le_of_ble_eq_true rfl) (Nat.zero_add _).symm (Nat.zero_add _).symm ?_
                                                                                    refine X.aload_2 (pc := 1246) (by decide +kernel) ?_
                                                                                    obtain ⟨hc564, h⟩ := asrt_some h
                                                                                    obtain ⟨x565, I566, L567, hv568, h⟩ := bnd3_some h
                                                                                    refine X.callVl (pc := 1247)  (c_Mod_rows hE (dle hd (Nat.le_of_ble_eq_true rfl)) hc564 hv568) cv_Law_181 (by decide +kernel) hc564 ⟨by decide, rfl⟩ (ddd hd (Nat.le_of_ble_eq_true rfl)) rfl (Nat.le_of_ble_eq_true rfl) (Nat.zero_add _).symm (Nat.zero_add _).symm ?_
                                                                                    refine X.lcmp (pc := 1250) (by decide +kernel) ?_
                                                                                    rcases ifb_some h with ⟨hq569, h⟩ | ⟨hq569, h⟩
                                                                                    · refine X.if_eq_t (pc := 1251) (off := 284) (tgt := 1535) hq569 rfl (by decide +kernel) ?_
                                                                                      refine X.iinc_4 (pc := 1535) (z := 5) (v := 5) ic_5 (by decide +kernel) (by decide) rfl ?_
                                                                                      refine X.goto (pc := 1538) (off := (-1515)) (tgt := 23) (by decide +kernel) rfl ?_
                                                                                      refine X.widen (nc' := f) (ns' := f * 6) (by omega) (by omega) ?_
                                                                                      exact ih h
                                                                                    · refine X.if_eq_f (pc := 1251) (off := 284) (tgt := 1535) hq569 rfl (by decide +kernel) ?_
                                                                                      refine X.iconst (pc := 1254) (i := 0) (v := 0) ic_0 (by decide +kernel) ?_
                                                                                      have j0 := Option.some.inj h
                                                                                      obtain ⟨i0, j1⟩ := Prod.mk.inj j0
                                                                                      obtain ⟨i1, j2⟩ := Prod.mk.inj j1
                                                                                      obtain ⟨i2, j3⟩ := Prod.mk.inj j2
                                                                                      subst i0
                                                                                      subst i1
                                                                                      subst i2
                                                                                      subst j3
                                                                                      exact X.ireturn (pc := 1255) (by decide +kernel) ⟨_, rfl, nz01 (Or.inl rfl)⟩ ⟨rfl, rfl, rfl, rfl, rfl, rfl⟩
                                                                                  · rcases ifb_some h with ⟨hq4_39, h⟩ | ⟨hq4_39, h⟩
                                                                                    · refine X.tabIn (pc := 39) (dflt := 1496) (lo := 0) (hi := 47) (offs := #[205, 230, 255, 268, 281, 306, 343, 380, 417, 454, 515, 540, 553, 578, 591, 604, 617, 630, 655, 680, 717, 742, 767, 792, 829, 866, 879, 904, 929, 954, 979, 1004, 1017, 1042, 1055, 1092, 1153, 1190, 1203, 1217, 1230, 1279, 1304, 1341, 1366, 1391, 1416, 1441]) (len := 205) (off := 1217) (tgt := 1256) (by decide +kernel) (by rw [hq4_39]; decide +kernel) (by rw [hq4_39]; decide +kernel) (by rw [hq4_39]; decide +kernel) rfl ?_
                                                                                      refine X.aload_1 (pc := 1256) (by decide +kernel) ?_
                                                                                      obtain ⟨hc570, h⟩ := asrt_some h
                                                                                      obtain ⟨x571, I572, L573, hv574, h⟩ := bnd3_some h
                                                                                      refine X.callVi (pc := 1257)  (c_GWL_lies hE (dle hd (Nat.le_of_ble_eq_true rfl)) hc570 hv574) cv_Law_182 (by decide +kernel) hc570 ⟨by decide, rfl⟩ (ddd hd (Nat.le_of_ble_eq_true rfl)) rfl (Nat.le_of_ble_eq_true rfl) (Nat.zero_add _).symm (Nat.zero_add _).symm ?_
                                                                                      refine X.aload_2 (pc := 1260) (by decide +kernel) ?_
                                                                                      obtain ⟨hc575, h⟩ := asrt_some h
                                                                                      obtain ⟨x576, I577, L578, hv579, h⟩ := bnd3_some h
                                                                                      refine X.callVi (pc := 1261)  (c_Mod_lies hE (dle hd (Nat.le_of_ble_eq_true rfl)) hc575 hv579) cv_Law_185 (by decide +kernel) hc575 ⟨by decide, rfl⟩ (ddd hd (Nat.le_of_ble_eq_true rfl)) rfl (Nat.le_of_ble_eq_true rfl) (Nat.zero_add _).symm (Nat.zero_add _).symm ?_
                                                                                      rcases ifb_some h with ⟨hq580, h⟩ | ⟨hq580, h⟩
                                                                                      · refine X.icmp_eq_t (pc := 1264) (off := 271) (tgt := 1535) hq580 rfl (by decide +kernel) ?_
                                                                                        refine X.iinc_4 (pc := 1535) (z := 5) (v := 5) ic_5 (by decide +kernel) (by decide) rfl ?_
                                                                                        refine X.goto (pc := 1538) (off := (-1515)) (tgt := 23) (by decide +kernel) rfl ?_
                                                                                        refine X.widen (nc' := f) (ns' := f * 6) (by omega) (by omega) ?_
                                                                                        exact ih h
                                                                                      · refine X.icmp_eq_f (pc := 1264) (off := 271) (tgt := 1535) hq580 rfl (by decide +kernel) ?_
                                                                                        refine X.iconst (pc := 1267) (i := 0) (v := 0) ic_0 (by decide +kernel) ?_
                                                                                        have j0 := Option.some.inj h
                                                                                        obtain ⟨i0, j1⟩ := Prod.mk.inj j0
                                                                                        obtain ⟨i1, j2⟩ := Prod.mk.inj j1
                                                                                        obtain ⟨i2, j3⟩ := Prod.mk.inj j2
                                                                                        subst i0
                                                                                        subst i1
                                                                                        subst i2
                                                                                        subst j3
                                                                                        exact X.ireturn (pc := 1268) (by decide +kernel) ⟨_, rfl, nz01 (Or.inl rfl)⟩ ⟨rfl, rfl, rfl, rfl, rfl, rfl⟩
                                                                                    · rcases ifb_some h with ⟨hq4_40, h⟩ | ⟨hq4_40, h⟩
                                                                                      · refine X.tabIn (pc := 39) (dflt := 1496) (lo := 0) (hi := 47) (offs := #[205, 230, 255, 268, 281, 306, 343, 380, 417, 454, 515, 540, 553, 578, 591, 604, 617, 630, 655, 680, 717, 742, 767, 792, 829, 866, 879, 904, 929, 954, 979, 1004, 1017, 1042, 1055, 1092, 1153, 1190, 1203, 1217, 1230, 1279, 1304, 1341, 1366, 1391, 1416, 1441]) (len := 205) (off := 1230) (tgt := 1269) (by decide +kernel) (by rw [hq4_40]; decide +kernel) (by rw [hq4_40]; decide +kernel) (by rw [hq4_40]; decide +kernel) rfl ?_
                                                                                        refine X.aload_1 (pc := 1269) (by decide +kernel) ?_
                                                                                        refine X.aload_0 (pc := 1270) (by decide +kernel) ?_
                                                                                        refine X.iload_4 (pc := 1271) (by decide +kernel) ?_
                                                                                        refine X.iconst (pc := 1273) (i := 1) (v := 1) ic_1 (by decide +kernel) ?_
                                                                                        refine X.iadd (pc := 1274) (by decide +kernel) ?_
                                                                                        refine X.nameI (fun x581 hx581 => ?_)
                                                                                        have h := lt_at hx581 h
                                                                                        obtain ⟨hi582, h⟩ := asrt_some h
                                                                                        refine X.sld (pc := 1275) hX (by decide +kernel) hi582 ?_
                                                                                        refine X.aload_0 (pc := 1276) (by decide +kernel) ?_
                                                                                        refine X.iload_4 (pc := 1277) (by decide +kernel) ?_
                                                                                        refine X.iconst (pc := 1279) (i := 2) (v := 2) ic_2 (by decide +kernel) ?_
                                                                                        refine X.iadd (pc := 1280) (by decide +kernel) ?_
                                                                                        refine X.nameI (fun x583 hx583 => ?_)
                                                                                        have h := lt_at hx583 h
                                                                                        obtain ⟨hi584, h⟩ := asrt_some h
                                                                                        refine X.sld (pc := 1281) hX (by decide +kernel) hi584 ?_
                                                                                        refine X.aload_0 (pc := 1282) (by decide +kernel) ?_
                                                                                        refine X.iload_4 (pc := 1283) (by decide +kernel) ?_
                                                                                        refine X.iconst (pc := 1285) (i := 3) (v := 3) ic_3 (by decide +kernel) ?_
                                                                                        refine X.iadd (pc := 1286) (by decide +kernel) ?_
                                                                                        refine X.nameI (fun x585 hx585 => ?_)
                                                                                        have h := lt_at hx585 h
                                                                                        obtain ⟨hi586, h⟩ := asrt_some h
                                                                                        refine X.sld (pc := 1287) hX (by decide +kernel) hi586 ?_
                                                                                        obtain ⟨hc587, h⟩ := asrt_some h
                                                                                        obtain ⟨x588, I589, hv590, h⟩ := bnd2_some h
                                                                                        refine X.callVi (pc := 1288)  (c_GWL_worth hE (dle hd (Nat.le_of_ble_eq_true rfl)) hc587 hv590) cv_Law_186 (by decide +kernel) hc587 ⟨by decide, rfl⟩ (ddd hd (Nat.le_of_ble_eq_true rfl)) rfl (Nat.le_of_ble_eq_true rfl) (Nat.zero_add _).symm (Nat.zero_add _).symm ?_
                                                                                        refine X.aload_2 (pc := 1291) (by decide +kernel) ?_
                                                                                        refine X.aload_0 (pc := 1292) (by decide +kernel) ?_
                                                                                        refine X.iload_4 (pc := 1293) (by decide +kernel) ?_
                                                                                        refine X.iconst (pc := 1295) (i := 1) (v := 1) ic_1 (by decide +kernel) ?_
                                                                                        refine X.iadd (pc := 1296) (by decide +kernel) ?_
                                                                                        refine X.nameI (fun x591 hx591 => ?_)
                                                                                        have h := lt_at hx591 h
                                                                                        obtain ⟨hi592, h⟩ := asrt_some h
                                                                                        refine X.sld (pc := 1297) hX (by decide +kernel) hi592 ?_
                                                                                        refine X.aload_0 (pc := 1298) (by decide +kernel) ?_
                                                                                        refine X.iload_4 (pc := 1299) (by decide +kernel) ?_
                                                                                        refine X.iconst (pc := 1301) (i := 2) (v := 2) ic_2 (by decide +kernel) ?_
                                                                                        refine X.iadd (pc := 1302) (by decide +kernel) ?_
                                                                                        refine X.nameI (fun x593 hx593 => ?_)
                                                                                        have h := lt_at hx593 h
                                                                                        obtain ⟨hi594, h⟩ := asrt_some h
                                                                                        refine X.sld (pc := 1303) hX (by decide +kernel) hi594 ?_
                                                                                        refine X.aload_0 (pc := 1304) (by decide +kernel) ?_
                                                                                        refine X.iload_4 (pc := 1305) (by decide +kernel) ?_
                                                                                        refine X.iconst (pc := 1307) (i := 3) (v := 3) ic_3 (by decide +kernel) ?_
                                                                                        refine X.iadd (pc := 1308) (by decide +kernel) ?_
                                                                                        refine X.nameI (fun x595 hx595 => ?_)
                                                                                        have h := lt_at hx595 h
                                                                                        obtain ⟨hi596, h⟩ := asrt_some h
                                                                                        refine X.sld (pc := 1309) hX (by decide +kernel) hi596 ?_
                                                                                        obtain ⟨hc597, h⟩ := asrt_some h
                                                                                        obtain ⟨x598, I599, hv600, h⟩ := bnd2_some h
                                                                                        refine X.callVi (pc := 1310)  (c_Mod_worth hE (dle hd (Nat.le_of_ble_eq_true rfl)) hc597 hv600) cv_Law_190 (by decide +kernel) hc597 ⟨by decide, rfl⟩ (ddd hd (Nat.le_of_ble_eq_true rfl)) rfl (Nat.le_of_ble_eq_true rfl) (Nat.zero_add _).symm (Nat.zero_add _).symm ?_
                                                                                        rcases ifb_some h with ⟨hq601, h⟩ | ⟨hq601, h⟩
                                                                                        · refine X.icmp_eq_t (pc := 1313) (off := 222) (tgt := 1535) hq601 rfl (by decide +kernel) ?_
                                                                                          refine X.iinc_4 (pc := 1535) (z := 5) (v := 5) ic_5 (by decide +kernel) (by decide) rfl ?_
                                                                                          refine X.goto (pc := 1538) (off := (-1515)) (tgt := 23) (by decide +kernel) rfl ?_
                                                                                          refine X.widen (nc' := f) (ns' := f * 6) (by omega) (by omega) ?_
                                                                                          exact ih h
                                                                                        · refine X.icmp_eq_f (pc := 1313) (off := 222) (tgt := 1535) hq601 rfl (by decide +kernel) ?_
                                                                                          refine X.iconst (pc := 1316) (i := 0) (v := 0) ic_0 (by decide +kernel) ?_
                                                                                          have j0 := Option.some.inj h
                                                                                          obtain ⟨i0, j1⟩ := Prod.mk.inj j0
                                                                                          obtain ⟨i1, j2⟩ := Prod.mk.inj j1
                                                                                          obtain ⟨i2, j3⟩ := Prod.mk.inj j2
                                                                                          subst i0
                                                                                          subst i1
                                                                                          subst i2
                                                                                          subst j3
                                                                                          exact X.ireturn (pc := 1317) (by decide +kernel) ⟨_, rfl, nz01 (Or.inl rfl)⟩ ⟨rfl, rfl, rfl, rfl, rfl, rfl⟩
                                                                                      · rcases ifb_some h with ⟨hq4_41, h⟩ | ⟨hq4_41, h⟩
                                                                                        · refine X.tabIn (pc := 39) (dflt := 1496) (lo := 0) (hi := 47) (offs := #[205, 230, 255, 268, 281, 306, 343, 380, 417, 454, 515, 540, 553, 578, 591, 604, 617, 630, 655, 680, 717, 742, 767, 792, 829, 866, 879, 904, 929, 954, 979, 1004, 1017, 1042, 1055, 1092, 1153, 1190, 1203, 1217, 1230, 1279, 1304, 1341, 1366, 1391, 1416, 1441]) (len := 205) (off := 1279) (tgt := 1318) (by decide +kernel) (by rw [hq4_41]; decide +kernel) (by rw [hq4_41]; decide +kernel) (by rw [hq4_41]; decide +kernel) rfl ?_
                                                                                          refine X.aload_1 (pc := 1318) (by decide +kernel) ?_
                                                                                          refine X.aload_0 (pc := 1319) (by decide +kernel) ?_
                                                                                          refine X.iload_4 (pc := 1320) (by decide +kernel) ?_
                                                                                          refine X.iconst (pc := 1322) (i := 1) (v := 1) ic_1 (by decide +kernel) ?_
                                                                                          refine X.iadd (pc := 1323) (by decide +kernel) ?_
                                                                                          refine X.nameI (fun x602 hx602 => ?_)
                                                                                          have h := lt_at hx602 h
                                                                                          obtain ⟨hi603, h⟩ := asrt_some h
                                                                                          refine X.sld (pc := 1324) hX (by decide +kernel) hi603 ?_
                                                                                          obtain ⟨hc604, h⟩ := asrt_some h
                                                                                          obtain ⟨x605, I606, L607, hv608, h⟩ := bnd3_some h
                                                                                          refine X.callVi (pc := 1325)  (c_GWL_hire hE (dle hd (Nat.le_of_ble_eq_true rfl)) hc604 hv608) cv_Law_191 (by decide +kernel) hc604 ⟨by decide, rfl⟩ (ddd hd (Nat.le_of_ble_eq_true rfl)) rfl (Nat.le_of_ble_eq_true rfl) (Nat.zero_add _).symm (Nat.zero_add _).symm ?_
                                                                                          refine X.aload_2 (pc := 1328) (by decide +kernel) ?_
                                                                                          refine X.aload_0 (pc := 1329) (by decide +kernel) ?_
                                                                                          refine X.iload_4 (pc := 1330) (by decide +kernel) ?_
                                                                                          refine X.iconst (pc := 1332) (i := 1) (v := 1) ic_1 (by decide +kernel) ?_
                                                                                          refine X.iadd (pc := 1333) (by decide +kernel) ?_
                                                                                          refine X.nameI (fun x609 hx609 => ?_)
                                                                                          have h := lt_at hx609 h
                                                                                          obtain ⟨hi610, h⟩ := asrt_some h
                                                                                          refine X.sld (pc := 1334) hX (by decide +kernel) hi610 ?_
                                                                                          obtain ⟨hc611, h⟩ := asrt_some h
                                                                                          obtain ⟨x612, I613, L614, hv615, h⟩ := bnd3_some h
                                                                                          refine X.callVi (pc := 1335)  (c_Mod_hire hE (dle hd (Nat.le_of_ble_eq_true rfl)) hc611 hv615) cv_Law_194 (by decide +kernel) hc611 ⟨by decide, rfl⟩ (ddd hd (Nat.le_of_ble_eq_true rfl)) rfl (Nat.le_of_ble_eq_true rfl) (Nat.zero_add _).symm (Nat.zero_add _).symm ?_
                                                                                          rcases ifb_some h with ⟨hq616, h⟩ | ⟨hq616, h⟩
                                                                                          · refine X.icmp_eq_t (pc := 1338) (off := 197) (tgt := 1535) hq616 rfl (by decide +kernel) ?_
                                                                                            refine X.iinc_4 (pc := 1535) (z := 5) (v := 5) ic_5 (by decide +kernel) (by decide) rfl ?_
                                                                                            refine X.goto (pc := 1538) (off := (-1515)) (tgt := 23) (by decide +kernel) rfl ?_
                                                                                            refine X.widen (nc' := f) (ns' := f * 6) (by omega) (by omega) ?_
                                                                                            exact ih h
                                                                                          · refine X.icmp_eq_f (pc := 1338) (off := 197) (tgt := 1535) hq616 rfl (by decide +kernel) ?_
                                                                                            refine X.iconst (pc := 1341) (i := 0) (v := 0) ic_0 (by decide +kernel) ?_
                                                                                            have j0 := Option.some.inj h
                                                                                            obtain ⟨i0, j1⟩ := Prod.mk.inj j0
                                                                                            obtain ⟨i1, j2⟩ := Prod.mk.inj j1
                                                                                            obtain ⟨i2, j3⟩ := Prod.mk.inj j2
                                                                                            subst i0
                                                                                            subst i1
                                                                                            subst i2
                                                                                            subst j3
                                                                                            exact X.ireturn (pc := 1342) (by decide +kernel) ⟨_, rfl, nz01 (Or.inl rfl)⟩ ⟨rfl, rfl, rfl, rfl, rfl, rfl⟩
                                                                                        · rcases ifb_some h with ⟨hq4_42, h⟩ | ⟨hq4_42, h⟩
                                                                                          · refine X.tabIn (pc := 39) (dflt := 1496) (lo := 0) (hi := 47) (offs := #[205, 230, 255, 268, 281, 306, 343, 380, 417, 454, 515, 540, 553, 578, 591, 604, 617, 630, 655, 680, 717, 742, 767, 792, 829, 866, 879, 904, 929, 954, 979, 1004, 1017, 1042, 1055, 1092, 1153, 1190, 1203, 1217, 1230, 1279, 1304, 1341, 1366, 1391, 1416, 1441]) (len := 205) (off := 1304) (tgt := 1343) (by decide +kernel) (by rw [hq4_42]; decide +kernel) (by rw [hq4_42]; decide +kernel) (by rw [hq4_42]; decide +kernel) rfl ?_
                                                                                            refine X.aload_1 (pc := 1343) (by decide +kernel) ?_
                                                                                            refine X.aload_0 (pc := 1344) (by decide +kernel) ?_
                                                                                            refine X.iload_4 (pc := 1345) (by decide +kernel) ?_
                                                                                            refine X.iconst (pc := 1347) (i := 1) (v := 1) ic_1 (by decide +kernel) ?_
                                                                                            refine X.iadd (pc := 1348) (by decide +kernel) ?_
                                                                                            refine X.nameI (fun x617 hx617 => ?_)
                                                                                            have h := lt_at hx617 h
                                                                                            obtain ⟨hi618, h⟩ := asrt_some h
                                                                                            refine X.sld (pc := 1349) hX (by decide +kernel) hi618 ?_
                                                                                            refine X.aload_0 (pc := 1350) (by decide +kernel) ?_
                                                                                            refine X.iload_4 (pc := 1351) (by decide +kernel) ?_
                                                                                            refine X.iconst (pc := 1353) (i := 2) (v := 2) ic_2 (by decide +kernel) ?_
                                                                                            refine X.iadd (pc := 1354) (by decide +kernel) ?_
                                                                                            refine X.nameI (fun x619 hx619 => ?_)
                                                                                            have h := lt_at hx619 h
                                                                                            obtain ⟨hi620, h⟩ := asrt_some h
                                                                                            refine X.sld (pc := 1355) hX (by decide +kernel) hi620 ?_
                                                                                            obtain ⟨hc621, h⟩ := asrt_some h
                                                                                            obtain ⟨x622, I623, hv624, h⟩ := bnd2_some h
                                                                                            refine X.callVi (pc := 1356)  (c_GWL_hoarse hE (dle hd (Nat.le_of_ble_eq_true rfl)) hc621 hv624) cv_Law_195 (by decide +kernel) hc621 ⟨by decide, rfl⟩ (ddd hd (Nat.le_of_ble_eq_true rfl)) rfl (Nat.le_of_ble_eq_true rfl) (Nat.zero_add _).symm (Nat.zero_add _).symm ?_
                                                                                            refine X.aload_2 (pc := 1359) (by decide +kernel) ?_
                                                                                            refine X.aload_0 (pc := 1360) (by decide +kernel) ?_
                                                                                            refine X.iload_4 (pc := 1361) (by decide +kernel) ?_
                                                                                            refine X.iconst (pc := 1363) (i := 1) (v := 1) ic_1 (by decide +kernel) ?_
                                                                                            refine X.iadd (pc := 1364) (by decide +kernel) ?_
                                                                                            refine X.nameI (fun x625 hx625 => ?_)
                                                                                            have h := lt_at hx625 h
                                                                                            obtain ⟨hi626, h⟩ := asrt_some h
                                                                                            refine X.sld (pc := 1365) hX (by decide +kernel) hi626 ?_
                                                                                            refine X.aload_0 (pc := 1366) (by decide +kernel) ?_
                                                                                            refine X.iload_4 (pc := 1367) (by decide +kernel) ?_
                                                                                            refine X.iconst (pc := 1369) (i := 2) (v := 2) ic_2 (by decide +kernel) ?_
                                                                                            refine X.iadd (pc := 1370) (by decide +kernel) ?_
                                                                                            refine X.nameI (fun x627 hx627 => ?_)
                                                                                            have h := lt_at hx627 h
                                                                                            obtain ⟨hi628, h⟩ := asrt_some h
                                                                                            refine X.sld (pc := 1371) hX (by decide +kernel) hi628 ?_
                                                                                            obtain ⟨hc629, h⟩ := asrt_some h
                                                                                            obtain ⟨x630, I631, hv632, h⟩ := bnd2_some h
                                                                                            refine X.callVi (pc := 1372)  (c_Mod_hoarse hE (dle hd (Nat.le_of_ble_eq_true rfl)) hc629 hv632) cv_Law_198 (by decide +kernel) hc629 ⟨by decide, rfl⟩ (ddd hd (Nat.le_of_ble_eq_true rfl)) rfl (Nat.le_of_ble_eq_true rfl) (Nat.zero_add _).symm (Nat.zero_add _).symm ?_
                                                                                            rcases ifb_some h with ⟨hq633, h⟩ | ⟨hq633, h⟩
                                                                                            · refine X.icmp_eq_t (pc := 1375) (off := 160) (tgt := 1535) hq633 rfl (by decide +kernel) ?_
                                                                                              refine X.iinc_4 (pc := 1535) (z := 5) (v := 5) ic_5 (by decide +kernel) (by decide) rfl ?_
                                                                                              refine X.goto (pc := 1538) (off := (-1515)) (tgt := 23) (by decide +kernel) rfl ?_
                                                                                              refine X.widen (nc' := f) (ns' := f * 6) (by omega) (by omega) ?_
                                                                                              exact ih h
                                                                                            · refine X.icmp_eq_f (pc := 1375) (off := 160) (tgt := 1535) hq633 rfl (by decide +kernel) ?_
                                                                                              refine X.iconst (pc := 1378) (i := 0) (v := 0) ic_0 (by decide +kernel) ?_
                                                                                              have j0 := Option.some.inj h
                                                                                              obtain ⟨i0, j1⟩ := Prod.mk.inj j0
                                                                                              obtain ⟨i1, j2⟩ := Prod.mk.inj j1
                                                                                              obtain ⟨i2, j3⟩ := Prod.mk.inj j2
                                                                                              subst i0
                                                                                              subst i1
                                                                                              subst i2
                                                                                              subst j3
                                                                                              exact X.ireturn (pc := 1379) (by decide +kernel) ⟨_, rfl, nz01 (Or.inl rfl)⟩ ⟨rfl, rfl, rfl, rfl, rfl, rfl⟩
                                                                                          · rcases ifb_some h with ⟨hq4_43, h⟩ | ⟨hq4_43, h⟩
                                                                                            · refine X.tabIn (pc := 39) (dflt := 1496) (lo := 0) (hi := 47) (offs := #[205, 230, 255, 268, 281, 306, 343, 380, 417, 454, 515, 540, 553, 578, 591, 604, 617, 630, 655, 680, 717, 742, 767, 792, 829, 866, 879, 904, 929, 954, 979, 1004, 1017, 1042, 1055, 1092, 1153, 1190, 1203, 1217, 1230, 1279, 1304, 1341, 1366, 1391, 1416, 1441]) (len := 205) (off := 1341) (tgt := 1380) (by decide +kernel) (by rw [hq4_43]; decide +kernel) (by rw [hq4_43]; decide +kernel) (by rw [hq4_43]; decide +kernel) rfl ?_
                                                                                              refine X.aload_1 (pc := 1380) (by decide +kernel) ?_
                                                                                              refine X.aload_0 (pc := 1381) (by decide +kernel) ?_
                                                                                              refine X.iload_4 (pc := 1382) (by decide +kernel) ?_
                                                                                              refine X.iconst (pc := 1384) (i := 1) (v := 1) ic_1 (by decide +kernel) ?_
                                                                                              refine X.iadd (pc := 1385) (by decide +kernel) ?_
                                                                                              refine X.nameI (fun x634 hx634 => ?_)
                                                                                              have h := lt_at hx634 h
                                                                                              obtain ⟨hi635, h⟩ := asrt_some h
                                                                                              refine X.sld (pc := 1386) hX (by decide +kernel) hi635 ?_
                                                                                              obtain ⟨hc636, h⟩ := asrt_some h
                                                                                              obtain ⟨x637, I638, hv639, h⟩ := bnd2_some h
                                                                                              refine X.callVi (pc := 1387)  (c_GWL_seed hE (dle hd (Nat.le_of_ble_eq_true rfl)) hc636 hv639) cv_Law_199 (by decide +kernel) hc636 ⟨by decide, rfl⟩ (ddd hd (Nat.le_of_ble_eq_true rfl)) rfl (Nat.le_of_ble_eq_true rfl) (Nat.zero_add _).symm (Nat.zero_add _).symm ?_
                                                                                              refine X.aload_2 (pc := 1390) (by decide +kernel) ?_
                                                                                              refine X.aload_0 (pc := 1391) (by decide +kernel) ?_
                                                                                              refine X.iload_4 (pc := 1392) (by decide +kernel) ?_
                                                                                              refine X.iconst (pc := 1394) (i := 1) (v := 1) ic_1 (by decide +kernel) ?_
                                                                                              refine X.iadd (pc := 1395) (by decide +kernel) ?_
                                                                                              refine X.nameI (fun x640 hx640 => ?_)
                                                                                              have h := lt_at hx640 h
                                                                                              obtain ⟨hi641, h⟩ := asrt_some h
                                                                                              refine X.sld (pc := 1396) hX (by decide +kernel) hi641 ?_
                                                                                              obtain ⟨hc642, h⟩ := asrt_some h
                                                                                              obtain ⟨x643, I644, hv645, h⟩ := bnd2_some h
                                                                                              refine X.callVi (pc := 1397)  (c_Mod_seed hE (dle hd (Nat.le_of_ble_eq_true rfl)) hc642 hv645) cv_Law_202 (by decide +kernel) hc642 ⟨by decide, rfl⟩ (ddd hd (Nat.le_of_ble_eq_true rfl)) rfl (Nat.le_of_ble_eq_true rfl) (Nat.zero_add _).symm (Nat.zero_add _).symm ?_
                                                                                              rcases ifb_some h with ⟨hq646, h⟩ | ⟨hq646, h⟩
                                                                                              · refine X.icmp_eq_t (pc := 1400) (off := 135) (tgt := 1535) hq646 rfl (by decide +kernel) ?_
                                                                                                refine X.iinc_4 (pc := 1535) (z := 5) (v := 5) ic_5 (by decide +kernel) (by decide) rfl ?_
                                                                                                refine X.goto (pc := 1538) (off := (-1515)) (tgt := 23) (by decide +kernel) rfl ?_
                                                                                                refine X.widen (nc' := f) (ns' := f * 6) (by omega) (by omega) ?_
                                                                                                exact ih h
                                                                                              · refine X.icmp_eq_f (pc := 1400) (off := 135) (tgt := 1535) hq646 rfl (by decide +kernel) ?_
                                                                                                refine X.iconst (pc := 1403) (i := 0) (v := 0) ic_0 (by decide +kernel) ?_
                                                                                                have j0 := Option.some.inj h
                                                                                                obtain ⟨i0, j1⟩ := Prod.mk.inj j0
                                                                                                obtain ⟨i1, j2⟩ := Prod.mk.inj j1
                                                                                                obtain ⟨i2, j3⟩ := Prod.mk.inj j2
                                                                                                subst i0
                                                                                                subst i1
                                                                                                subst i2
                                                                                                subst j3
                                                                                                exact X.ireturn (pc := 1404) (by decide +kernel) ⟨_, rfl, nz01 (Or.inl rfl)⟩ ⟨rfl, rfl, rfl, rfl, rfl, rfl⟩
                                                                                            · rcases ifb_some h with ⟨hq4_44, h⟩ | ⟨hq4_44, h⟩
                                                                                              · refine X.tabIn (pc := 39) (dflt := 1496) (lo := 0) (hi := 47) (offs := #[205, 230, 255, 268, 281, 306, 343, 380, 417, 454, 515, 540, 553, 578, 591, 604, 617, 630, 655, 680, 717, 742, 767, 792, 829, 866, 879, 904, 929, 954, 979, 1004, 1017, 1042, 1055, 1092, 1153, 1190, 1203, 1217, 1230, 1279, 1304, 1341, 1366, 1391, 1416, 1441]) (len := 205) (off := 1366) (tgt := 1405) (by decide +kernel) (by rw [hq4_44]; decide +kernel) (by rw [hq4_44]; decide +kernel) (by rw [hq4_44]; decide +kernel) rfl ?_
                                                                                                refine X.aload_1 (pc := 1405) (by decide +kernel) ?_
                                                                                                refine X.aload_0 (pc := 1406) (by decide +kernel) ?_
                                                                                                refine X.iload_4 (pc := 1407) (by decide +kernel) ?_
                                                                                                refine X.iconst (pc := 1409) (i := 1) (v := 1) ic_1 (by decide +kernel) ?_
                                                                                                refine X.iadd (pc := 1410) (by decide +kernel) ?_
                                                                                                refine X.nameI (fun x647 hx647 => ?_)
                                                                                                have h := lt_at hx647 h
                                                                                                obtain ⟨hi648, h⟩ := asrt_some h
                                                                                                refine X.sld (pc := 1411) hX (by decide +kernel) hi648 ?_
                                                                                                obtain ⟨hc649, h⟩ := asrt_some h
                                                                                                obtain ⟨x650, I651, hv652, h⟩ := bnd2_some h
                                                                                                refine X.callVi (pc := 1412)  (c_GWL_keep hE (dle hd (Nat.le_of_ble_eq_true rfl)) hc649 hv652) cv_Law_203 (by decide +kernel) hc649 ⟨by decide, rfl⟩ (ddd hd (Nat.le_of_ble_eq_true rfl)) rfl (Nat.le_of_ble_eq_true rfl) (Nat.zero_add _).symm (Nat.zero_add _).symm ?_
                                                                                                refine X.aload_2 (pc := 1415) (by decide +kernel) ?_
                                                                                                refine X.aload_0 (pc := 1416) (by decide +kernel) ?_
                                                                                                refine X.iload_4 (pc := 1417) (by decide +kernel) ?_
                                                                                                refine X.iconst (pc := 1419) (i := 1) (v := 1) ic_1 (by decide +kernel) ?_
                                                                                                refine X.iadd (pc := 1420) (by decide +kernel) ?_
                                                                                                refine X.nameI (fun x653 hx653 => ?_)
                                                                                                have h := lt_at hx653 h
                                                                                                obtain ⟨hi654, h⟩ := asrt_some h
                                                                                                refine X.sld (pc := 1421) hX (by decide +kernel) hi654 ?_
                                                                                                obtain ⟨hc655, h⟩ := asrt_some h
                                                                                                obtain ⟨x656, I657, hv658, h⟩ := bnd2_some h
                                                                                                refine X.callVi (pc := 1422)  (c_Mod_keep hE (dle hd (Nat.le_of_ble_eq_true rfl)) hc655 hv658) cv_Law_206 (by decide +kernel) hc655 ⟨by decide, rfl⟩ (ddd hd (Nat.le_of_ble_eq_true rfl)) rfl (Nat.le_of_ble_eq_true rfl) (Nat.zero_add _).symm (Nat.zero_add _).symm ?_
                                                                                                rcases ifb_some h with ⟨hq659, h⟩ | ⟨hq659, h⟩
                                                                                                · refine X.icmp_eq_t (pc := 1425) (off := 110) (tgt := 1535) hq659 rfl (by decide +kernel) ?_
                                                                                                  refine X.iinc_4 (pc := 1535) (z := 5) (v := 5) ic_5 (by decide +kernel) (by decide) rfl ?_
                                                                                                  refine X.goto (pc := 1538) (off := (-1515)) (tgt := 23) (by decide +kernel) rfl ?_
                                                                                                  refine X.widen (nc' := f) (ns' := f * 6) (by omega) (by omega) ?_
                                                                                                  exact ih h
                                                                                                · refine X.icmp_eq_f (pc := 1425) (off := 110) (tgt := 1535) hq659 rfl (by decide +kernel) ?_
                                                                                                  refine X.iconst (pc := 1428) (i := 0) (v := 0) ic_0 (by decide +kernel) ?_
                                                                                                  have j0 := Option.some.inj h
                                                                                                  obtain ⟨i0, j1⟩ := Prod.mk.inj j0
                                                                                                  obtain ⟨i1, j2⟩ := Prod.mk.inj j1
                                                                                                  obtain ⟨i2, j3⟩ := Prod.mk.inj j2
                                                                                                  subst i0
                                                                                                  subst i1
                                                                                                  subst i2
                                                                                                  subst j3
                                                                                                  exact X.ireturn (pc := 1429) (by decide +kernel) ⟨_, rfl, nz01 (Or.inl rfl)⟩ ⟨rfl, rfl, rfl, rfl, rfl, rfl⟩
                                                                                              · rcases ifb_some h with ⟨hq4_45, h⟩ | ⟨hq4_45, h⟩
                                                                                                · refine X.tabIn (pc := 39) (dflt := 1496) (lo := 0) (hi := 47) (offs := #[205, 230, 255, 268, 281, 306, 343, 380, 417, 454, 515, 540, 553, 578, 591, 604, 617, 630, 655, 680, 717, 742, 767, 792, 829, 866, 879, 904, 929, 954, 979, 1004, 1017, 1042, 1055, 1092, 1153, 1190, 1203, 1217, 1230, 1279, 1304, 1341, 1366, 1391, 1416, 1441]) (len := 205) (off := 1391) (tgt := 1430) (by decide +kernel) (by rw [hq4_45]; decide +kernel) (by rw [hq4_45]; decide +kernel) (by rw [hq4_45]; decide +kernel) rfl ?_
                                                                                                  refine X.aload_1 (pc := 1430) (by decide +kernel) ?_
                                                                                                  refine X.aload_0 (pc := 1431) (by decide +kernel) ?_
                                                                                                  refine X.iload_4 (pc := 1432) (by decide +kernel) ?_
                                                                                                  refine X.iconst (pc := 1434) (i := 1) (v := 1) ic_1 (by decide +kernel) ?_
                                                                                                  refine X.iadd (pc := 1435) (by decide +kernel) ?_
                                                                                                  refine X.nameI (fun x660 hx660 => ?_)
                                                                                                  have h := lt_at hx660 h
                                                                                                  obtain ⟨hi661, h⟩ := asrt_some h
                                                                                                  refine X.sld (pc := 1436) hX (by decide +kernel) hi661 ?_
                                                                                                  obtain ⟨hc662, h⟩ := asrt_some h
                                                                                                  obtain ⟨x663, I664, hv665, h⟩ := bnd2_some h
                                                                                                  refine X.callVi (pc := 1437)  (c_GWL_again hE (dle hd (Nat.le_of_ble_eq_true rfl)) hc662 hv665) cv_Law_207 (by decide +kernel) hc662 ⟨by decide, rfl⟩ (ddd hd (Nat.le_of_ble_eq_true rfl)) rfl (Nat.le_of_ble_eq_true rfl) (Nat.zero_add _).symm (Nat.zero_add _).symm ?_
                                                                                                  refine X.aload_2 (pc := 1440) (by decide +kernel) ?_
                                                                                                  refine X.aload_0 (pc := 1441) (by decide +kernel) ?_
                                                                                                  refine X.iload_4 (pc := 1442) (by decide +kernel) ?_
                                                                                                  refine X.iconst (pc := 1444) (i := 1) (v := 1) ic_1 (by decide +kernel) ?_
                                                                                                  refine X.iadd (pc := 1445) (by decide +kernel) ?_
                                                                                                  refine X.nameI (fun x666 hx666 => ?_)
                                                                                                  have h := lt_at hx666 h
                                                                                                  obtain ⟨hi667, h⟩ := asrt_some h
                                                                                                  refine X.sld (pc := 1446) hX (by decide +kernel) hi667 ?_
                                                                                                  obtain ⟨hc668, h⟩ := asrt_some h
                                                                                                  obtain ⟨x669, I670, hv671, h⟩ := bnd2_some h
                                                                                                  refine X.callVi (pc := 1447)  (c_Mod_again hE (dle hd (Nat.le_of_ble_eq_true rfl)) hc668 hv671) cv_Law_210 (by decide +kernel) hc668 ⟨by decide, rfl⟩ (ddd hd (Nat.le_of_ble_eq_true rfl)) rfl (Nat.le_of_ble_eq_true rfl) (Nat.zero_add _).symm (Nat.zero_add _).symm ?_
                                                                                                  rcases ifb_some h with ⟨hq672, h⟩ | ⟨hq672, h⟩
                                                                                                  · refine X.icmp_eq_t (pc := 1450) (off := 85) (tgt := 1535) hq672 rfl (by decide +kernel) ?_
                                                                                                    refine X.iinc_4 (pc := 1535) (z := 5) (v := 5) ic_5 (by decide +kernel) (by decide) rfl ?_
                                                                                                    refine X.goto (pc := 1538) (off := (-1515)) (tgt := 23) (by decide +kernel) rfl ?_
                                                                                                    refine X.widen (nc' := f) (ns' := f * 6) (by omega) (by omega) ?_
                                                                                                    exact ih h
                                                                                                  · refine X.icmp_eq_f (pc := 1450) (off := 85) (tgt := 1535) hq672 rfl (by decide +kernel) ?_
                                                                                                    refine X.iconst (pc := 1453) (i := 0) (v := 0) ic_0 (by decide +kernel) ?_
                                                                                                    have j0 := Option.some.inj h
                                                                                                    obtain ⟨i0, j1⟩ := Prod.mk.inj j0
                                                                                                    obtain ⟨i1, j2⟩ := Prod.mk.inj j1
                                                                                                    obtain ⟨i2, j3⟩ := Prod.mk.inj j2
                                                                                                    subst i0
                                                                                                    subst i1
                                                                                                    subst i2
                                                                                                    subst j3
                                                                                                    exact X.ireturn (pc := 1454) (by decide +kernel) ⟨_, rfl, nz01 (Or.inl rfl)⟩ ⟨rfl, rfl, rfl, rfl, rfl, rfl⟩
                                                                                                · rcases ifb_some h with ⟨hq4_46, h⟩ | ⟨hq4_46, h⟩
                                                                                                  · refine X.tabIn (pc := 39) (dflt := 1496) (lo := 0) (hi := 47) (offs := #[205, 230, 255, 268, 281, 306, 343, 380, 417, 454, 515, 540, 553, 578, 591, 604, 617, 630, 655, 680, 717, 742, 767, 792, 829, 866, 879, 904, 929, 954, 979, 1004, 1017, 1042, 1055, 1092, 1153, 1190, 1203, 1217, 1230, 1279, 1304, 1341, 1366, 1391, 1416, 1441]) (len := 205) (off := 1416) (tgt := 1455) (by decide +kernel) (by rw [hq4_46]; decide +kernel) (by rw [hq4_46]; decide +kernel) (by rw [hq4_46]; decide +kernel) rfl ?_
                                                                                                    refine X.aload_1 (pc := 1455) (by decide +kernel) ?_
                                                                                                    refine X.aload_0 (pc := 1456) (by decide +kernel) ?_
                                                                                                    refine X.iload_4 (pc := 1457) (by decide +kernel) ?_
                                                                                                    refine X.iconst (pc := 1459) (i := 1) (v := 1) ic_1 (by decide +kernel) ?_
                                                                                                    refine X.iadd (pc := 1460) (by decide +kernel) ?_
                                                                                                    refine X.nameI (fun x673 hx673 => ?_)
                                                                                                    have h := lt_at hx673 h
                                                                                                    obtain ⟨hi674, h⟩ := asrt_some h
                                                                                                    refine X.sld (pc := 1461) hX (by decide +kernel) hi674 ?_
                                                                                                    obtain ⟨hc675, h⟩ := asrt_some h
                                                                                                    obtain ⟨x676, hv677, h⟩ := bnd1_some h
                                                                                                    refine X.callVi (pc := 1462)  (c_GWL_count hE (dle hd (Nat.le_of_ble_eq_true rfl)) hc675 hv677) cv_Law_211 (by decide +kernel) hc675 ⟨by decide, rfl⟩ (ddd hd (Nat.le_of_ble_eq_true rfl)) rfl (Nat.le_of_ble_eq_true rfl) (Nat.zero_add _).symm (Nat.zero_add _).symm ?_
                                                                                                    refine X.aload_2 (pc := 1465) (by decide +kernel) ?_
                                                                                                    refine X.aload_0 (pc := 1466) (by decide +kernel) ?_
                                                                                                    refine X.iload_4 (pc := 1467) (by decide +kernel) ?_
                                                                                                    refine X.iconst (pc := 1469) (i := 1) (v := 1) ic_1 (by decide +kernel) ?_
                                                                                                    refine X.iadd (pc := 1470) (by decide +kernel) ?_
                                                                                                    refine X.nameI (fun x678 hx678 => ?_)
                                                                                                    have h := lt_at hx678 h
                                                                                                    obtain ⟨hi679, h⟩ := asrt_some h
                                                                                                    refine X.sld (pc := 1471) hX (by decide +kernel) hi679 ?_
                                                                                                    obtain ⟨hc680, h⟩ := asrt_some h
                                                                                                    obtain ⟨x681, I682, hv683, h⟩ := bnd2_some h
                                                                                                    refine X.callVi (pc := 1472)  (c_Mod_count hE (dle hd (Nat.le_of_ble_eq_true rfl)) hc680 hv683) cv_Law_214 (by decide +kernel) hc680 ⟨by decide, rfl⟩ (ddd hd (Nat.le_of_ble_eq_true rfl)) rfl (Nat.le_of_ble_eq_true rfl) (Nat.zero_add _).symm (Nat.zero_add _).symm ?_
                                                                                                    rcases ifb_some h with ⟨hq684, h⟩ | ⟨hq684, h⟩
                                                                                                    · refine X.icmp_eq_t (pc := 1475) (off := 60) (tgt := 1535) hq684 rfl (by decide +kernel) ?_
                                                                                                      refine X.iinc_4 (pc := 1535) (z := 5) (v := 5) ic_5 (by decide +kernel) (by decide) rfl ?_
                                                                                                      refine X.goto (pc := 1538) (off := (-1515)) (tgt := 23) (by decide +kernel) rfl ?_
                                                                                                      refine X.widen (nc' := f) (ns' := f * 6) (by omega) (by omega) ?_
                                                                                                      exact ih h
                                                                                                    · refine X.icmp_eq_f (pc := 1475) (off := 60) (tgt := 1535) hq684 rfl (by decide +kernel) ?_
                                                                                                      refine X.iconst (pc := 1478) (i := 0) (v := 0) ic_0 (by decide +kernel) ?_
                                                                                                      have j0 := Option.some.inj h
                                                                                                      obtain ⟨i0, j1⟩ := Prod.mk.inj j0
                                                                                                      obtain ⟨i1, j2⟩ := Prod.mk.inj j1
                                                                                                      obtain ⟨i2, j3⟩ := Prod.mk.inj j2
                                                                                                      subst i0
                                                                                                      subst i1
                                                                                                      subst i2
                                                                                                      subst j3
                                                                                                      exact X.ireturn (pc := 1479) (by decide +kernel) ⟨_, rfl, nz01 (Or.inl rfl)⟩ ⟨rfl, rfl, rfl, rfl, rfl, rfl⟩
                                                                                                  · rcases ifb_some h with ⟨hq4_47, h⟩ | ⟨hq4_47, h⟩
                                                                                                    · refine X.tabIn (pc := 39) (dflt := 1496) (lo := 0) (hi := 47) (offs := #[205, 230, 255, 268, 281, 306, 343, 380, 417, 454, 515, 540, 553, 578, 591, 604, 617, 630, 655, 680, 717, 742, 767, 792, 829, 866, 879, 904, 929, 954, 979, 1004, 1017, 1042, 1055, 1092, 1153, 1190, 1203, 1217, 1230, 1279, 1304, 1341, 1366, 1391, 1416, 1441]) (len := 205) (off := 1441) (tgt := 1480) (by decide +kernel) (by rw [hq4_47]; decide +kernel) (by rw [hq4_47]; decide +kernel) (by rw [hq4_47]; decide +kernel) rfl ?_
                                                                                                      refine X.aload_1 (pc := 1480) (by decide +kernel) ?_
                                                                                                      refine X.aload_0 (pc := 1481) (by decide +kernel) ?_
                                                                                                      refine X.iload_4 (pc := 1482) (by decide +kernel) ?_
                                                                                                      refine X.iconst (pc := 1484) (i := 1) (v := 1) ic_1 (by decide +kernel) ?_
                                                                                                      refine X.iadd (pc := 1485) (by decide +kernel) ?_
                                                                                                      refine X.nameI (fun x685 hx685 => ?_)
                                                                                                      have h := lt_at hx685 h
                                                                                                      obtain ⟨hi686, h⟩ := asrt_some h
                                                                                                      refine X.sld (pc := 1486) hX (by decide +kernel) hi686 ?_
                                                                                                      refine X.aload_3 (pc := 1487) (by decide +kernel) ?_
                                                                                                      obtain ⟨x687, L688, hv689, h⟩ := bnd2_some h
                                                                                                      refine X.callRow (pc := 1488) hE (Nat.le_trans (by decide) hd) hv689 (by decide +kernel) ?_
                                                                                                      refine X.istore_5 (pc := 1491) (by decide +kernel) (by decide) rfl ?_
                                                                                                      refine X.aload_2 (pc := 1493) (by decide +kernel) ?_
                                                                                                      refine X.aload_0 (pc := 1494) (by decide +kernel) ?_
                                                                                                      refine X.iload_4 (pc := 1495) (by decide +kernel) ?_
                                                                                                      refine X.iconst (pc := 1497) (i := 1) (v := 1) ic_1 (by decide +kernel) ?_
                                                                                                      refine X.iadd (pc := 1498) (by decide +kernel) ?_
                                                                                                      refine X.nameI (fun x690 hx690 => ?_)
                                                                                                      have h := lt_at hx690 h
                                                                                                      obtain ⟨hi691, h⟩ := asrt_some h
                                                                                                      refine X.sld (pc := 1499) hX (by decide +kernel) hi691 ?_
                                                                                                      obtain ⟨hc692, h⟩ := asrt_some h
                                                                                                      obtain ⟨x693, I694, hv695, h⟩ := bnd2_some h
                                                                                                      refine X.callVl (pc := 1500)  (c_Mod_row hE (dle hd (Nat.le_of_ble_eq_true rfl)) hc692 hv695) cv_Law_220 (by decide +kernel) hc692 ⟨by decide, rfl⟩ (ddd hd (Nat.le_of_ble_eq_true rfl)) rfl (Nat.le_of_ble_eq_true rfl) (Nat.zero_add _).symm (Nat.zero_add _).symm ?_
                                                                                                      refine X.lstore_6 (pc := 1503) (by decide +kernel) (by decide) rfl ?_
                                                                                                      refine X.aload_2 (pc := 1505) (by decide +kernel) ?_
                                                                                                      obtain ⟨x696, hv697, h⟩ := bnd1_some h
                                                                                                      refine X.callVi (pc := 1506)  (c_Mod_thrown hE (dle hd (Nat.le_of_ble_eq_true rfl)) hc692 hv697) cv_Law_221 (by decide +kernel) hc692 ⟨by decide, rfl⟩ (ddd hd (Nat.le_of_ble_eq_true rfl)) rfl (Nat.le_of_ble_eq_true rfl) (Nat.zero_add _).symm (Nat.zero_add _).symm ?_
                                                                                                      refine X.iload_5 (pc := 1509) (by decide +kernel) ?_
                                                                                                      rcases ifb_some h with ⟨hq698, h⟩ | ⟨hq698, h⟩
                                                                                                      · refine X.icmp_eq_t (pc := 1511) (off := 5) (tgt := 1516) hq698 rfl (by decide +kernel) ?_
                                                                                                        refine X.iload_5 (pc := 1516) (by decide +kernel) ?_
                                                                                                        rcases ifb_some h with ⟨hq699, h⟩ | ⟨hq699, h⟩
                                                                                                        · refine X.if_ne_f (pc := 1518) (off := 14) (tgt := 1532) hq699 rfl (by decide +kernel) ?_
                                                                                                          refine X.aload_3 (pc := 1521) (by decide +kernel) ?_
                                                                                                          refine X.iconst (pc := 1522) (i := 0) (v := 0) ic_0 (by decide +kernel) ?_
                                                                                                          obtain ⟨hc701, h⟩ := asrt_some h
                                                                                                          obtain ⟨hi700, h⟩ := asrt_some h
                                                                                                          refine X.laload (pc := 1523) (by decide +kernel) hc701 hi700 ?_
                                                                                                          refine X.lload_6 (pc := 1524) (by decide +kernel) ?_
                                                                                                          refine X.lcmp (pc := 1526) (by decide +kernel) ?_
                                                                                                          rcases ifb_some h with ⟨hq702, h⟩ | ⟨hq702, h⟩
                                                                                                          · refine X.if_eq_t (pc := 1527) (off := 5) (tgt := 1532) hq702 rfl (by decide +kernel) ?_
                                                                                                            refine X.goto (pc := 1532) (off := 3) (tgt := 1535) (by decide +kernel) rfl ?_
                                                                                                            refine X.iinc_4 (pc := 1535) (z := 5) (v := 5) ic_5 (by decide +kernel) (by decide) rfl ?_
                                                                                                            refine X.goto (pc := 1538) (off := (-1515)) (tgt := 23) (by decide +kernel) rfl ?_
                                                                                                            refine X.fgt (o' := [some (.ref (E.2.2.2 9)), some (.ref (e_b E + v1)), some (.ref (e_b E + v2)), some (.ref (e_b E + v3)), some (.int (v4 + 5)), none, none, none]) ⟨rfl, ⟨rfl, ⟨rfl, ⟨rfl, ⟨rfl, trivial⟩⟩⟩⟩⟩ ?_
                                                                                                            refine X.widen (nc' := f) (ns' := f * 6) (by omega) (by omega) ?_
                                                                                                            exact ih h
                                                                                                          · refine X.if_eq_f (pc := 1527) (off := 5) (tgt := 1532) hq702 rfl (by decide +kernel) ?_
                                                                                                            refine X.iconst (pc := 1530) (i := 0) (v := 0) ic_0 (by decide +kernel) ?_
                                                                                                            have j0 := Option.some.inj h
                                                                                                            obtain ⟨i0, j1⟩ := Prod.mk.inj j0
                                                                                                            obtain ⟨i1, j2⟩ := Prod.mk.inj j1
                                                                                                            obtain ⟨i2, j3⟩ := Prod.mk.inj j2
                                                                                                            subst i0
                                                                                                            subst i1
                                                                                                            subst i2
                                                                                                            subst j3
                                                                                                            exact X.ireturn (pc := 1531) (by decide +kernel) ⟨_, rfl, nz01 (Or.inl rfl)⟩ ⟨rfl, rfl, rfl, rfl, rfl, rfl⟩
                                                                                                        · refine X.if_ne_t (pc := 1518) (off := 14) (tgt := 1532) hq699 rfl (by decide +kernel) ?_
                                                                                                          refine X.goto (pc := 1532) (off := 3) (tgt := 1535) (by decide +kernel) rfl ?_
                                                                                                          refine X.iinc_4 (pc := 1535) (z := 5) (v := 5) ic_5 (by decide +kernel) (by decide) rfl ?_
                                                                                                          refine X.goto (pc := 1538) (off := (-1515)) (tgt := 23) (by decide +kernel) rfl ?_
                                                                                                          refine X.fgt (o' := [some (.ref (E.2.2.2 9)), some (.ref (e_b E + v1)), some (.ref (e_b E + v2)), some (.ref (e_b E + v3)), some (.int (v4 + 5)), none, none, none]) ⟨rfl, ⟨rfl, ⟨rfl, ⟨rfl, ⟨rfl, trivial⟩⟩⟩⟩⟩ ?_
                                                                                                          refine X.widen (nc' := f) (ns' := f * 6) (by omega) (by omega) ?_
                                                                                                          exact ih h
                                                                                                      · refine X.icmp_eq_f (pc := 1511) (off := 5) (tgt := 1516) hq698 rfl (by decide +kernel) ?_
                                                                                                        refine X.iconst (pc := 1514) (i := 0) (v := 0) ic_0 (by decide +kernel) ?_
                                                                                                        have j0 := Option.some.inj h
                                                                                                        obtain ⟨i0, j1⟩ := Prod.mk.inj j0
                                                                                                        obtain ⟨i1, j2⟩ := Prod.mk.inj j1
                                                                                                        obtain ⟨i2, j3⟩ := Prod.mk.inj j2
                                                                                                        subst i0
                                                                                                        subst i1
                                                                                                        subst i2
                                                                                                        subst j3
                                                                                                        exact X.ireturn (pc := 1515) (by decide +kernel) ⟨_, rfl, nz01 (Or.inl rfl)⟩ ⟨rfl, rfl, rfl, rfl, rfl, rfl⟩
                                                                                                    · refine X.tabOut (pc := 39) (dflt := 1496) (lo := 0) (hi := 47) (offs := #[205, 230, 255, 268, 281, 306, 343, 380, 417, 454, 515, 540, 553, 578, 591, 604, 617, 630, 655, 680, 717, 742, 767, 792, 829, 866, 879, 904, 929, 954, 979, 1004, 1017, 1042, 1055, 1092, 1153, 1190, 1203, 1217, 1230, 1279, 1304, 1341, 1366, 1391, 1416, 1441]) (len := 205) (tgt := 1535) (by decide +kernel) ?_ rfl ?_
                                                                                                      · refine tabn (N := 48) (fun k hk => ?_)
                                                                                                        match k, hk with
                                                                                                        | 0, _ => exact hq4_0
                                                                                                        | 1, _ => exact hq4_1
                                                                                                        | 2, _ => exact hq4_2
                                                                                                        | 3, _ => exact hq4_3
                                                                                                        | 4, _ => exact hq4_4
                                                                                                        | 5, _ => exact hq4_5
                                                                                                        | 6, _ => exact hq4_6
                                                                                                        | 7, _ => exact hq4_7
                                                                                                        | 8, _ => exact hq4_8
                                                                                                        | 9, _ => exact hq4_9
                                                                                                        | 10, _ => exact hq4_10
                                                                                                        | 11, _ => exact hq4_11
                                                                                                        | 12, _ => exact hq4_12
                                                                                                        | 13, _ => exact hq4_13
                                                                                                        | 14, _ => exact hq4_14
                                                                                                        | 15, _ => exact hq4_15
                                                                                                        | 16, _ => exact hq4_16
                                                                                                        | 17, _ => exact hq4_17
                                                                                                        | 18, _ => exact hq4_18
                                                                                                        | 19, _ => exact hq4_19
                                                                                                        | 20, _ => exact hq4_20
                                                                                                        | 21, _ => exact hq4_21
                                                                                                        | 22, _ => exact hq4_22
                                                                                                        | 23, _ => exact hq4_23
                                                                                                        | 24, _ => exact hq4_24
                                                                                                        | 25, _ => exact hq4_25
                                                                                                        | 26, _ => exact hq4_26
                                                                                                        | 27, _ => exact hq4_27
                                                                                                        | 28, _ => exact hq4_28
                                                                                                        | 29, _ => exact hq4_29
                                                                                                        | 30, _ => exact hq4_30
                                                                                                        | 31, _ => exact hq4_31
                                                                                                        | 32, _ => exact hq4_32
                                                                                                        | 33, _ => exact hq4_33
                                                                                                        | 34, _ => exact hq4_34
                                                                                                        | 35, _ => exact hq4_35
                                                                                                        | 36, _ => exact hq4_36
                                                                                                        | 37, _ => exact hq4_37
                                                                                                        | 38, _ => exact hq4_38
                                                                                                        | 39, _ => exact hq4_39
                                                                                                        | 40, _ => exact hq4_40
                                                                                                        | 41, _ => exact hq4_41
                                                                                                        | 42, _ => exact hq4_42
                                                                                                        | 43, _ => exact hq4_43
                                                                                                        | 44, _ => exact hq4_44
                                                                                                        | 45, _ => exact hq4_45
                                                                                                        | 46, _ => exact hq4_46
                                                                                                        | 47, _ => exact hq4_47
                                                                                                        | k + 48, hk => exact absurd hk (by omega)
                                                                                                      refine X.iinc_4 (pc := 1535) (z := 5) (v := 5) ic_5 (by decide +kernel) (by decide) rfl ?_
                                                                                                      refine X.goto (pc := 1538) (off := (-1515)) (tgt := 23) (by decide +kernel) rfl ?_
                                                                                                      refine X.widen (nc' := f) (ns' := f * 6) (by omega) (by omega) ?_
                                                                                                      exact ih h
