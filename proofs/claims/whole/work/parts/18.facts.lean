/-! Printed by wip/whole/tools/gen_vc.py: links and constants by their places in the tables -/
set_option maxRecDepth 100000 in
theorem cw_404 : Jvm.Cond.constant "LeaderTerms" (412 : Nat) (-1000001 : Int32) ∈ x_tb := x_tm 519 rfl rfl
set_option maxRecDepth 100000 in
theorem cw_430 : Jvm.Cond.constant "java/lang/Integer" (265 : Nat) (1431655765 : Int32) ∈ x_tb := x_tm 545 rfl rfl
set_option maxRecDepth 100000 in
theorem cw_431 : Jvm.Cond.constant "java/lang/Integer" (266 : Nat) (858993459 : Int32) ∈ x_tb := x_tm 546 rfl rfl
set_option maxRecDepth 100000 in
theorem cw_432 : Jvm.Cond.constant "java/lang/Integer" (267 : Nat) (252645135 : Int32) ∈ x_tb := x_tm 547 rfl rfl
set_option maxRecDepth 100000 in
theorem cw_453 : Jvm.Cond.constantLong "LeaderTerms$Square" (75 : Nat) (-1 : Int64) ∈ x_tb := x_tm 568 rfl rfl
set_option maxRecDepth 100000 in
theorem cw_591 : Jvm.Cond.constantLong "LeaderTerms" (188 : Nat) (2000000 : Int64) ∈ x_tb := x_tm 706 rfl rfl
set_option maxRecDepth 100000 in
theorem cw_611 : Jvm.Cond.constantLong "LeaderTerms" (413 : Nat) (-1000000000000000001 : Int64) ∈ x_tb := x_tm 726 rfl rfl
set_option maxRecDepth 100000 in
theorem cw_723 : Jvm.Cond.constantLong "LeaderTerms$Row" (23 : Nat) (1000000 : Int64) ∈ x_tb := x_tm 838 rfl rfl
set_option maxRecDepth 100000 in
theorem cw_724 : Jvm.Cond.constantLong "LeaderTerms$Row" (25 : Nat) (1000000000 : Int64) ∈ x_tb := x_tm 839 rfl rfl
set_option maxRecDepth 100000 in
theorem cw_885 : Jvm.Cond.constant "LeaderTerms$World" (50 : Nat) (1103515245 : Int32) ∈ x_tb := x_tm 1000 rfl rfl
set_option maxRecDepth 100000 in
theorem cw_895 : Jvm.Cond.constantLong "LeaderTerms" (333 : Nat) (-9223372036854775808 : Int64) ∈ x_tb := x_tm 1010 rfl rfl
set_option maxRecDepth 100000 in
theorem cw_896 : Jvm.Cond.constantLong "LeaderTerms" (335 : Nat) (-1 : Int64) ∈ x_tb := x_tm 1011 rfl rfl
set_option maxRecDepth 100000 in
theorem cw_909 : Jvm.Cond.constantLong "LeaderTerms" (439 : Nat) (-999 : Int64) ∈ x_tb := x_tm 1024 rfl rfl
set_option maxRecDepth 100000 in
theorem cw_1228 : Jvm.Cond.constantLong "LeaderTermsModel" (306 : Nat) (69 : Int64) ∈ x_tb := x_tm 1343 rfl rfl
set_option maxRecDepth 100000 in
theorem cw_1232 : Jvm.Cond.constantLong "LeaderTermsModel" (308 : Nat) (3 : Int64) ∈ x_tb := x_tm 1347 rfl rfl
set_option maxRecDepth 100000 in
theorem cw_1237 : Jvm.Cond.constant "LeaderTermsModel" (135 : Nat) (-1000001 : Int32) ∈ x_tb := x_tm 1352 rfl rfl
set_option maxRecDepth 100000 in
theorem cw_1250 : Jvm.Cond.constantLong "LeaderTermsModel" (313 : Nat) (6 : Int64) ∈ x_tb := x_tm 1365 rfl rfl
set_option maxRecDepth 100000 in
theorem cw_1327 : Jvm.Cond.constant "java/lang/Integer" (264 : Nat) (65536 : Int32) ∈ x_tb := x_tm 1442 rfl rfl
set_option maxRecDepth 100000 in
theorem cw_1346 : Jvm.Cond.constantLong "LeaderTermsModel" (320 : Nat) (20 : Int64) ∈ x_tb := x_tm 1461 rfl rfl
set_option maxRecDepth 100000 in
theorem cw_1347 : Jvm.Cond.constantLong "LeaderTermsModel" (322 : Nat) (-9 : Int64) ∈ x_tb := x_tm 1462 rfl rfl
set_option maxRecDepth 100000 in
theorem cw_1348 : Jvm.Cond.constantLong "LeaderTermsModel" (324 : Nat) (9 : Int64) ∈ x_tb := x_tm 1463 rfl rfl
set_option maxRecDepth 100000 in
theorem cw_1353 : Jvm.Cond.constantLong "LeaderTermsModel" (333 : Nat) (2 : Int64) ∈ x_tb := x_tm 1468 rfl rfl
set_option maxRecDepth 100000 in
theorem cw_1358 : Jvm.Cond.constantLong "LeaderTermsModel" (335 : Nat) (26 : Int64) ∈ x_tb := x_tm 1473 rfl rfl
set_option maxRecDepth 100000 in
theorem cw_1367 : Jvm.Cond.constantLong "LeaderTermsModel" (341 : Nat) (342 : Int64) ∈ x_tb := x_tm 1482 rfl rfl
set_option maxRecDepth 100000 in
theorem cw_1388 : Jvm.Cond.constantLong "LeaderTermsModel" (349 : Nat) (40 : Int64) ∈ x_tb := x_tm 1503 rfl rfl
set_option maxRecDepth 100000 in
theorem cw_1393 : Jvm.Cond.constantLong "LeaderTermsModel" (351 : Nat) (2000000 : Int64) ∈ x_tb := x_tm 1508 rfl rfl
set_option maxRecDepth 100000 in
theorem cw_1411 : Jvm.Cond.constantLong "LeaderTermsModel" (136 : Nat) (-1000000000000000001 : Int64) ∈ x_tb := x_tm 1526 rfl rfl
set_option maxRecDepth 100000 in
theorem cw_1420 : Jvm.Cond.constantLong "LeaderTermsModel" (363 : Nat) (-1 : Int64) ∈ x_tb := x_tm 1535 rfl rfl
set_option maxRecDepth 100000 in
theorem cw_1556 : Jvm.Cond.constantLong "LeaderTermsModel" (428 : Nat) (1000000 : Int64) ∈ x_tb := x_tm 1671 rfl rfl
set_option maxRecDepth 100000 in
theorem cw_1557 : Jvm.Cond.constantLong "LeaderTermsModel" (430 : Nat) (1000000000 : Int64) ∈ x_tb := x_tm 1672 rfl rfl
set_option maxRecDepth 100000 in
theorem cw_1590 : Jvm.Cond.constantLong "LeaderTermsModel" (445 : Nat) (5 : Int64) ∈ x_tb := x_tm 1705 rfl rfl
set_option maxRecDepth 100000 in
theorem cw_1611 : Jvm.Cond.constantLong "LeaderTermsModel" (450 : Nat) (4 : Int64) ∈ x_tb := x_tm 1726 rfl rfl
set_option maxRecDepth 100000 in
theorem cw_1656 : Jvm.Cond.constantLong "LeaderTermsModel" (477 : Nat) (-9999 : Int64) ∈ x_tb := x_tm 1771 rfl rfl
set_option maxRecDepth 100000 in
theorem cw_1657 : Jvm.Cond.constantLong "LeaderTermsModel" (479 : Nat) (9999 : Int64) ∈ x_tb := x_tm 1772 rfl rfl
set_option maxRecDepth 100000 in
theorem cw_1674 : Jvm.Cond.constant "LeaderTermsModel" (495 : Nat) (1103515245 : Int32) ∈ x_tb := x_tm 1789 rfl rfl
set_option maxRecDepth 100000 in
theorem cw_1683 : Jvm.Cond.constantLong "LeaderTermsModel" (498 : Nat) (-9223372036854775808 : Int64) ∈ x_tb := x_tm 1798 rfl rfl
set_option maxRecDepth 100000 in
theorem cw_1696 : Jvm.Cond.constantLong "LeaderTermsModel" (503 : Nat) (-999 : Int64) ∈ x_tb := x_tm 1811 rfl rfl
set_option maxRecDepth 100000 in
theorem cw_1745 : Jvm.Cond.constantLong "LeaderTermsModel" (517 : Nat) (10 : Int64) ∈ x_tb := x_tm 1860 rfl rfl
set_option maxRecDepth 100000 in
theorem cw_1777 : Jvm.Cond.constantLong "LeaderTermsModel" (539 : Nat) (7 : Int64) ∈ x_tb := x_tm 1892 rfl rfl
set_option maxRecDepth 100000 in
theorem fl_37 : x_FL "LeaderTerms$Market" 57 2 0 := x_tm 152 rfl rfl
set_option maxRecDepth 100000 in
theorem fl_38 : x_FL "LeaderTerms$Fraction" 17 2 0 := x_tm 153 rfl rfl
set_option maxRecDepth 100000 in
theorem fl_39 : x_FL "LeaderTerms$Breaks" 36 2 0 := x_tm 154 rfl rfl
set_option maxRecDepth 100000 in
theorem fl_40 : x_FL "LeaderTerms$Square" 50 2 0 := x_tm 155 rfl rfl
set_option maxRecDepth 100000 in
theorem fl_41 : x_FL "LeaderTerms" 178 2 0 := x_tm 156 rfl rfl
set_option maxRecDepth 100000 in
theorem fl_42 : x_FL "LeaderTerms$Fraction" 7 2 1 := x_tm 157 rfl rfl
set_option maxRecDepth 100000 in
theorem fl_43 : x_FL "LeaderTerms$Prices" 37 2 1 := x_tm 158 rfl rfl
set_option maxRecDepth 100000 in
theorem fl_44 : x_FL "LeaderTerms$Market" 60 2 1 := x_tm 159 rfl rfl
set_option maxRecDepth 100000 in
theorem fl_45 : x_FL "LeaderTerms$Breaks" 33 2 1 := x_tm 160 rfl rfl
set_option maxRecDepth 100000 in
theorem fl_46 : x_FL "LeaderTerms$Square" 56 2 1 := x_tm 161 rfl rfl
set_option maxRecDepth 100000 in
theorem fl_47 : x_FL "LeaderTerms" 182 2 1 := x_tm 162 rfl rfl
set_option maxRecDepth 100000 in
theorem fl_60 : x_FL "LeaderTerms$Follower" 39 1 0 := x_tm 175 rfl rfl
set_option maxRecDepth 100000 in
theorem fl_61 : x_FL "LeaderTerms" 116 1 0 := x_tm 176 rfl rfl
set_option maxRecDepth 100000 in
theorem fl_62 : x_FL "LeaderTerms$Plans" 136 1 0 := x_tm 177 rfl rfl
set_option maxRecDepth 100000 in
theorem fl_63 : x_FL "LeaderTerms$Follower" 42 1 1 := x_tm 178 rfl rfl
set_option maxRecDepth 100000 in
theorem fl_64 : x_FL "LeaderTerms" 123 1 1 := x_tm 179 rfl rfl
set_option maxRecDepth 100000 in
theorem fl_65 : x_FL "LeaderTerms$Square" 21 1 2 := x_tm 180 rfl rfl
set_option maxRecDepth 100000 in
theorem fl_66 : x_FL "LeaderTerms$Follower" 25 1 2 := x_tm 181 rfl rfl
set_option maxRecDepth 100000 in
theorem fl_67 : x_FL "LeaderTerms$Plans" 65 1 2 := x_tm 182 rfl rfl
set_option maxRecDepth 100000 in
theorem fl_68 : x_FL "LeaderTerms$Prices" 53 1 2 := x_tm 183 rfl rfl
set_option maxRecDepth 100000 in
theorem fl_69 : x_FL "LeaderTerms" 126 1 2 := x_tm 184 rfl rfl
set_option maxRecDepth 100000 in
theorem fl_70 : x_FL "LeaderTerms$Follower" 29 1 3 := x_tm 185 rfl rfl
set_option maxRecDepth 100000 in
theorem fl_71 : x_FL "LeaderTerms$Square" 39 1 3 := x_tm 186 rfl rfl
set_option maxRecDepth 100000 in
theorem fl_72 : x_FL "LeaderTerms$Plans" 88 1 3 := x_tm 187 rfl rfl
set_option maxRecDepth 100000 in
theorem fl_73 : x_FL "LeaderTerms$Prices" 80 1 3 := x_tm 188 rfl rfl
set_option maxRecDepth 100000 in
theorem fl_74 : x_FL "LeaderTerms" 129 1 3 := x_tm 189 rfl rfl
set_option maxRecDepth 100000 in
theorem fl_75 : x_FL "LeaderTerms$Follower" 9 1 4 := x_tm 190 rfl rfl
set_option maxRecDepth 100000 in
theorem fl_76 : x_FL "LeaderTerms" 149 1 4 := x_tm 191 rfl rfl
set_option maxRecDepth 100000 in
theorem fl_77 : x_FL "LeaderTerms$Plans" 116 1 4 := x_tm 192 rfl rfl
set_option maxRecDepth 100000 in
theorem fl_78 : x_FL "LeaderTerms$Follower" 15 1 5 := x_tm 193 rfl rfl
set_option maxRecDepth 100000 in
theorem fl_79 : x_FL "LeaderTerms$Plans" 91 1 5 := x_tm 194 rfl rfl
set_option maxRecDepth 100000 in
theorem fl_80 : x_FL "LeaderTerms$Square" 67 1 5 := x_tm 195 rfl rfl
set_option maxRecDepth 100000 in
theorem fl_81 : x_FL "LeaderTerms" 172 1 5 := x_tm 196 rfl rfl
set_option maxRecDepth 100000 in
theorem fl_82 : x_FL "LeaderTerms$Follower" 18 1 6 := x_tm 197 rfl rfl
set_option maxRecDepth 100000 in
theorem fl_83 : x_FL "LeaderTerms$Square" 42 1 6 := x_tm 198 rfl rfl
set_option maxRecDepth 100000 in
theorem fl_84 : x_FL "LeaderTerms$Plans" 97 1 6 := x_tm 199 rfl rfl
set_option maxRecDepth 100000 in
theorem fl_85 : x_FL "LeaderTerms$Prices" 83 1 6 := x_tm 200 rfl rfl
set_option maxRecDepth 100000 in
theorem fl_86 : x_FL "LeaderTerms" 158 1 6 := x_tm 201 rfl rfl
set_option maxRecDepth 100000 in
theorem fl_103 : x_FL "LeaderTerms$World" 32 9 0 := x_tm 218 rfl rfl
set_option maxRecDepth 100000 in
theorem fl_104 : x_FL "LeaderTerms" 92 9 0 := x_tm 219 rfl rfl
set_option maxRecDepth 100000 in
theorem fl_105 : x_FL "LeaderTerms$Spot" 20 9 0 := x_tm 220 rfl rfl
set_option maxRecDepth 100000 in
theorem fl_106 : x_FL "LeaderTerms$Market" 75 9 0 := x_tm 221 rfl rfl
set_option maxRecDepth 100000 in
theorem fl_107 : x_FL "LeaderTerms$World" 9 9 1 := x_tm 222 rfl rfl
set_option maxRecDepth 100000 in
theorem fl_108 : x_FL "LeaderTerms$Market" 113 9 1 := x_tm 223 rfl rfl
set_option maxRecDepth 100000 in
theorem fl_109 : x_FL "LeaderTerms" 185 9 1 := x_tm 224 rfl rfl
set_option maxRecDepth 100000 in
theorem fl_110 : x_FL "LeaderTerms$World" 35 9 2 := x_tm 225 rfl rfl
set_option maxRecDepth 100000 in
theorem fl_111 : x_FL "LeaderTerms" 308 9 2 := x_tm 226 rfl rfl
set_option maxRecDepth 100000 in
theorem fl_112 : x_FL "LeaderTerms$World" 15 9 3 := x_tm 227 rfl rfl
set_option maxRecDepth 100000 in
theorem fl_113 : x_FL "LeaderTerms" 320 9 3 := x_tm 228 rfl rfl
set_option maxRecDepth 100000 in
theorem fl_114 : x_FL "LeaderTerms$World" 38 9 4 := x_tm 229 rfl rfl
set_option maxRecDepth 100000 in
theorem fl_115 : x_FL "LeaderTerms" 317 9 4 := x_tm 230 rfl rfl
set_option maxRecDepth 100000 in
theorem fl_116 : x_FL "LeaderTerms$World" 21 9 5 := x_tm 231 rfl rfl
set_option maxRecDepth 100000 in
theorem fl_117 : x_FL "LeaderTerms$Market" 54 9 5 := x_tm 232 rfl rfl
set_option maxRecDepth 100000 in
theorem fl_118 : x_FL "LeaderTerms" 175 9 5 := x_tm 233 rfl rfl
set_option maxRecDepth 100000 in
theorem fl_119 : x_FL "LeaderTerms$World" 27 9 6 := x_tm 234 rfl rfl
set_option maxRecDepth 100000 in
theorem fl_121 : x_FL "LeaderTerms" 96 9 6 := x_tm 236 rfl rfl
set_option maxRecDepth 100000 in
theorem fl_143 : x_FL "LeaderTerms$Square" 9 8 0 := x_tm 258 rfl rfl
set_option maxRecDepth 100000 in
theorem fl_144 : x_FL "LeaderTerms$Square" 15 8 1 := x_tm 259 rfl rfl
set_option maxRecDepth 100000 in
theorem fl_145 : x_FL "LeaderTerms$Square" 18 8 2 := x_tm 260 rfl rfl
set_option maxRecDepth 100000 in
theorem fl_146 : x_FL "LeaderTerms$Prices" 77 8 2 := x_tm 261 rfl rfl
set_option maxRecDepth 100000 in
theorem fl_147 : x_FL "LeaderTerms$Plans" 94 8 2 := x_tm 262 rfl rfl
set_option maxRecDepth 100000 in
theorem fl_148 : x_FL "LeaderTerms$Plans" 100 8 3 := x_tm 263 rfl rfl
set_option maxRecDepth 100000 in
theorem fl_149 : x_FL "LeaderTerms$Prices" 86 8 3 := x_tm 264 rfl rfl
set_option maxRecDepth 100000 in
theorem fl_150 : x_FL "LeaderTerms$Square" 74 8 3 := x_tm 265 rfl rfl
set_option maxRecDepth 100000 in
theorem fl_177 : x_FL "LeaderTerms$Breaks" 29 0 0 := x_tm 292 rfl rfl
set_option maxRecDepth 100000 in
theorem fl_178 : x_FL "LeaderTerms$Market" 101 0 0 := x_tm 293 rfl rfl
set_option maxRecDepth 100000 in
theorem fl_179 : x_FL "LeaderTerms" 271 0 0 := x_tm 294 rfl rfl
set_option maxRecDepth 100000 in
theorem fl_180 : x_FL "LeaderTerms$Breaks" 9 0 1 := x_tm 295 rfl rfl
set_option maxRecDepth 100000 in
theorem fl_181 : x_FL "LeaderTerms$Market" 106 0 1 := x_tm 296 rfl rfl
set_option maxRecDepth 100000 in
theorem fl_182 : x_FL "LeaderTerms" 274 0 1 := x_tm 297 rfl rfl
set_option maxRecDepth 100000 in
theorem fl_183 : x_FL "LeaderTerms$Breaks" 15 0 2 := x_tm 298 rfl rfl
set_option maxRecDepth 100000 in
theorem fl_184 : x_FL "LeaderTerms$Market" 108 0 2 := x_tm 299 rfl rfl
set_option maxRecDepth 100000 in
theorem fl_185 : x_FL "LeaderTerms" 276 0 2 := x_tm 300 rfl rfl
set_option maxRecDepth 100000 in
theorem fl_186 : x_FL "LeaderTerms$Breaks" 21 0 3 := x_tm 301 rfl rfl
set_option maxRecDepth 100000 in
theorem fl_203 : x_FL "LeaderTerms$Plans" 41 4 0 := x_tm 318 rfl rfl
set_option maxRecDepth 100000 in
theorem fl_204 : x_FL "LeaderTerms$Plans" 45 4 1 := x_tm 319 rfl rfl
set_option maxRecDepth 100000 in
theorem fl_205 : x_FL "LeaderTerms$Plans" 49 4 2 := x_tm 320 rfl rfl
set_option maxRecDepth 100000 in
theorem fl_206 : x_FL "LeaderTerms" 132 4 2 := x_tm 321 rfl rfl
set_option maxRecDepth 100000 in
theorem fl_207 : x_FL "LeaderTerms$Plans" 9 4 3 := x_tm 322 rfl rfl
set_option maxRecDepth 100000 in
theorem fl_208 : x_FL "LeaderTerms" 210 4 3 := x_tm 323 rfl rfl
set_option maxRecDepth 100000 in
theorem fl_209 : x_FL "LeaderTerms$Plans" 15 4 4 := x_tm 324 rfl rfl
set_option maxRecDepth 100000 in
theorem fl_210 : x_FL "LeaderTerms$Market" 85 4 4 := x_tm 325 rfl rfl
set_option maxRecDepth 100000 in
theorem fl_211 : x_FL "LeaderTerms" 213 4 4 := x_tm 326 rfl rfl
set_option maxRecDepth 100000 in
theorem fl_212 : x_FL "LeaderTerms$Plans" 18 4 5 := x_tm 327 rfl rfl
set_option maxRecDepth 100000 in
theorem fl_213 : x_FL "LeaderTerms" 418 4 5 := x_tm 328 rfl rfl
set_option maxRecDepth 100000 in
theorem fl_214 : x_FL "LeaderTerms$Plans" 22 4 6 := x_tm 329 rfl rfl
set_option maxRecDepth 100000 in
theorem fl_215 : x_FL "LeaderTerms$Plans" 25 4 7 := x_tm 330 rfl rfl
set_option maxRecDepth 100000 in
theorem fl_216 : x_FL "LeaderTerms$Market" 82 4 7 := x_tm 331 rfl rfl
set_option maxRecDepth 100000 in
theorem fl_217 : x_FL "LeaderTerms$Plans" 28 4 8 := x_tm 332 rfl rfl
set_option maxRecDepth 100000 in
theorem fl_218 : x_FL "LeaderTerms$Plans" 31 4 9 := x_tm 333 rfl rfl
set_option maxRecDepth 100000 in
theorem fl_219 : x_FL "LeaderTerms" 215 4 9 := x_tm 334 rfl rfl
set_option maxRecDepth 100000 in
theorem fl_220 : x_FL "LeaderTerms$Plans" 34 4 10 := x_tm 335 rfl rfl
set_option maxRecDepth 100000 in
theorem fl_221 : x_FL "LeaderTerms$Market" 78 4 10 := x_tm 336 rfl rfl
set_option maxRecDepth 100000 in
theorem fl_222 : x_FL "LeaderTerms" 218 4 10 := x_tm 337 rfl rfl
set_option maxRecDepth 100000 in
theorem fl_223 : x_FL "LeaderTerms$Plans" 37 4 11 := x_tm 338 rfl rfl
set_option maxRecDepth 100000 in
theorem fl_224 : x_FL "LeaderTerms$Market" 71 4 12 := x_tm 339 rfl rfl
set_option maxRecDepth 100000 in
theorem fl_225 : x_FL "LeaderTerms$Plans" 119 4 12 := x_tm 340 rfl rfl
set_option maxRecDepth 100000 in
theorem fl_253 : x_FL "LeaderTerms$Market" 41 3 0 := x_tm 368 rfl rfl
set_option maxRecDepth 100000 in
theorem fl_254 : x_FL "LeaderTerms$Market" 11 3 1 := x_tm 369 rfl rfl
set_option maxRecDepth 100000 in
theorem fl_255 : x_FL "LeaderTerms" 104 3 1 := x_tm 370 rfl rfl
set_option maxRecDepth 100000 in
theorem fl_256 : x_FL "LeaderTerms$Market" 20 3 2 := x_tm 371 rfl rfl
set_option maxRecDepth 100000 in
theorem fl_257 : x_FL "LeaderTerms" 267 3 2 := x_tm 372 rfl rfl
set_option maxRecDepth 100000 in
theorem fl_258 : x_FL "LeaderTerms$Market" 27 3 3 := x_tm 373 rfl rfl
set_option maxRecDepth 100000 in
theorem fl_259 : x_FL "LeaderTerms" 301 3 3 := x_tm 374 rfl rfl
set_option maxRecDepth 100000 in
theorem fl_260 : x_FL "LeaderTerms$Market" 31 3 4 := x_tm 375 rfl rfl
set_option maxRecDepth 100000 in
theorem fl_261 : x_FL "LeaderTerms" 287 3 4 := x_tm 376 rfl rfl
set_option maxRecDepth 100000 in
theorem fl_262 : x_FL "LeaderTerms$Market" 120 3 5 := x_tm 377 rfl rfl
set_option maxRecDepth 100000 in
theorem fl_263 : x_FL "LeaderTerms" 294 3 5 := x_tm 378 rfl rfl
set_option maxRecDepth 100000 in
theorem fl_264 : x_FL "LeaderTerms$Market" 34 3 6 := x_tm 379 rfl rfl
set_option maxRecDepth 100000 in
theorem fl_265 : x_FL "LeaderTerms$Market" 37 3 7 := x_tm 380 rfl rfl
set_option maxRecDepth 100000 in
theorem fl_289 : x_FL "LeaderTerms$Prices" 29 5 0 := x_tm 404 rfl rfl
set_option maxRecDepth 100000 in
theorem fl_290 : x_FL "LeaderTerms$Prices" 33 5 1 := x_tm 405 rfl rfl
set_option maxRecDepth 100000 in
theorem fl_291 : x_FL "LeaderTerms" 426 5 1 := x_tm 406 rfl rfl
set_option maxRecDepth 100000 in
theorem fl_292 : x_FL "LeaderTerms$Prices" 87 5 2 := x_tm 407 rfl rfl
set_option maxRecDepth 100000 in
theorem fl_293 : x_FL "LeaderTerms" 231 5 2 := x_tm 408 rfl rfl
set_option maxRecDepth 100000 in
theorem fl_294 : x_FL "LeaderTerms$Prices" 90 5 3 := x_tm 409 rfl rfl
set_option maxRecDepth 100000 in
theorem fl_295 : x_FL "LeaderTerms$Prices" 9 5 4 := x_tm 410 rfl rfl
set_option maxRecDepth 100000 in
theorem fl_296 : x_FL "LeaderTerms$Prices" 15 5 5 := x_tm 411 rfl rfl
set_option maxRecDepth 100000 in
theorem fl_297 : x_FL "LeaderTerms$Prices" 19 5 6 := x_tm 412 rfl rfl
set_option maxRecDepth 100000 in
theorem fl_298 : x_FL "LeaderTerms$Prices" 22 5 7 := x_tm 413 rfl rfl
set_option maxRecDepth 100000 in
theorem fl_299 : x_FL "LeaderTerms" 425 5 7 := x_tm 414 rfl rfl
set_option maxRecDepth 100000 in
theorem fl_300 : x_FL "LeaderTerms$Prices" 26 5 8 := x_tm 415 rfl rfl
set_option maxRecDepth 100000 in
theorem fl_333 : x_FL "LeaderTerms$Spot" 7 7 0 := x_tm 448 rfl rfl
set_option maxRecDepth 100000 in
theorem fl_334 : x_FL "LeaderTerms" 392 7 0 := x_tm 449 rfl rfl
set_option maxRecDepth 100000 in
theorem fl_335 : x_FL "LeaderTerms$Spot" 13 7 1 := x_tm 450 rfl rfl
set_option maxRecDepth 100000 in
theorem fl_336 : x_FL "LeaderTerms" 393 7 1 := x_tm 451 rfl rfl
set_option maxRecDepth 100000 in
theorem fl_337 : x_FL "LeaderTerms$Spot" 16 7 2 := x_tm 452 rfl rfl
set_option maxRecDepth 100000 in
theorem fl_338 : x_FL "LeaderTerms" 397 7 2 := x_tm 453 rfl rfl
set_option maxRecDepth 100000 in
theorem fl_346 : x_FL "LeaderTerms" 12 10 0 := x_tm 461 rfl rfl
set_option maxRecDepth 100000 in
theorem fl_347 : x_FL "LeaderTerms" 16 10 1 := x_tm 462 rfl rfl
set_option maxRecDepth 100000 in
theorem fl_348 : x_FL "LeaderTerms" 405 10 2 := x_tm 463 rfl rfl
set_option maxRecDepth 100000 in
theorem fl_349 : x_FL "LeaderTerms" 27 10 3 := x_tm 464 rfl rfl
set_option maxRecDepth 100000 in
theorem fl_350 : x_FL "LeaderTerms" 36 10 4 := x_tm 465 rfl rfl
set_option maxRecDepth 100000 in
theorem fl_351 : x_FL "LeaderTerms" 43 10 5 := x_tm 466 rfl rfl
set_option maxRecDepth 100000 in
theorem fl_352 : x_FL "LeaderTerms" 47 10 6 := x_tm 467 rfl rfl
set_option maxRecDepth 100000 in
theorem fl_353 : x_FL "LeaderTerms" 54 10 7 := x_tm 468 rfl rfl
set_option maxRecDepth 100000 in
theorem fl_354 : x_FL "LeaderTerms" 58 10 8 := x_tm 469 rfl rfl
set_option maxRecDepth 100000 in
theorem fl_355 : x_FL "LeaderTerms" 63 10 9 := x_tm 470 rfl rfl
set_option maxRecDepth 100000 in
theorem fl_356 : x_FL "LeaderTerms" 69 10 10 := x_tm 471 rfl rfl
set_option maxRecDepth 100000 in
theorem fl_357 : x_FL "LeaderTerms" 74 10 11 := x_tm 472 rfl rfl
set_option maxRecDepth 100000 in
theorem fl_358 : x_FL "LeaderTerms" 346 10 12 := x_tm 473 rfl rfl
set_option maxRecDepth 100000 in
theorem fl_359 : x_FL "LeaderTerms" 78 10 13 := x_tm 474 rfl rfl
set_option maxRecDepth 100000 in
theorem fl_360 : x_FL "LeaderTerms" 81 10 14 := x_tm 475 rfl rfl
set_option maxRecDepth 100000 in
theorem fl_952 : x_FL "LeaderTerms$Row" 7 6 0 := x_tm 1067 rfl rfl
set_option maxRecDepth 100000 in
theorem fl_953 : x_FL "LeaderTerms" 368 6 0 := x_tm 1068 rfl rfl
set_option maxRecDepth 100000 in
theorem fl_954 : x_FL "LeaderTerms$Row" 19 6 1 := x_tm 1069 rfl rfl
set_option maxRecDepth 100000 in
theorem fl_955 : x_FL "LeaderTerms" 366 6 1 := x_tm 1070 rfl rfl
set_option maxRecDepth 100000 in
theorem fl_1049 : x_FL "LeaderTermsModel" 200 11 0 := x_tm 1164 rfl rfl
set_option maxRecDepth 100000 in
theorem fl_1050 : x_FL "LeaderTermsModel" 7 11 1 := x_tm 1165 rfl rfl
set_option maxRecDepth 100000 in
theorem fl_1051 : x_FL "LeaderTermsModel" 13 11 2 := x_tm 1166 rfl rfl
set_option maxRecDepth 100000 in
theorem fl_1052 : x_FL "LeaderTermsModel" 16 11 3 := x_tm 1167 rfl rfl
set_option maxRecDepth 100000 in
theorem fl_1053 : x_FL "LeaderTermsModel" 19 11 4 := x_tm 1168 rfl rfl
set_option maxRecDepth 100000 in
theorem fl_1054 : x_FL "LeaderTermsModel" 24 11 5 := x_tm 1169 rfl rfl
set_option maxRecDepth 100000 in
theorem fl_1055 : x_FL "LeaderTermsModel" 27 11 6 := x_tm 1170 rfl rfl
set_option maxRecDepth 100000 in
theorem fl_1056 : x_FL "LeaderTermsModel" 32 11 7 := x_tm 1171 rfl rfl
set_option maxRecDepth 100000 in
theorem fl_1057 : x_FL "LeaderTermsModel" 35 11 8 := x_tm 1172 rfl rfl
set_option maxRecDepth 100000 in
theorem fl_1058 : x_FL "LeaderTermsModel" 315 11 9 := x_tm 1173 rfl rfl
set_option maxRecDepth 100000 in
theorem fl_1059 : x_FL "LeaderTermsModel" 39 11 10 := x_tm 1174 rfl rfl
set_option maxRecDepth 100000 in
theorem fl_1060 : x_FL "LeaderTermsModel" 488 11 11 := x_tm 1175 rfl rfl
set_option maxRecDepth 100000 in
theorem fl_1061 : x_FL "LeaderTermsModel" 481 11 12 := x_tm 1176 rfl rfl
set_option maxRecDepth 100000 in
theorem fl_1062 : x_FL "LeaderTermsModel" 43 11 13 := x_tm 1177 rfl rfl
set_option maxRecDepth 100000 in
theorem fl_1063 : x_FL "LeaderTermsModel" 46 11 14 := x_tm 1178 rfl rfl
set_option maxRecDepth 100000 in
theorem fl_1064 : x_FL "LeaderTermsModel" 144 11 15 := x_tm 1179 rfl rfl
set_option maxRecDepth 100000 in
theorem fl_1065 : x_FL "LeaderTermsModel" 147 11 16 := x_tm 1180 rfl rfl
set_option maxRecDepth 100000 in
theorem fl_1066 : x_FL "LeaderTermsModel" 153 11 17 := x_tm 1181 rfl rfl
set_option maxRecDepth 100000 in
theorem fl_1067 : x_FL "LeaderTermsModel" 51 11 18 := x_tm 1182 rfl rfl
set_option maxRecDepth 100000 in
theorem fl_1068 : x_FL "LeaderTermsModel" 54 11 19 := x_tm 1183 rfl rfl
set_option maxRecDepth 100000 in
theorem fl_1069 : x_FL "LeaderTermsModel" 58 11 20 := x_tm 1184 rfl rfl
set_option maxRecDepth 100000 in
theorem fl_1070 : x_FL "LeaderTermsModel" 61 11 21 := x_tm 1185 rfl rfl
set_option maxRecDepth 100000 in
theorem fl_1071 : x_FL "LeaderTermsModel" 66 11 22 := x_tm 1186 rfl rfl
set_option maxRecDepth 100000 in
theorem fl_1072 : x_FL "LeaderTermsModel" 69 11 23 := x_tm 1187 rfl rfl
set_option maxRecDepth 100000 in
theorem fl_1073 : x_FL "LeaderTermsModel" 72 11 24 := x_tm 1188 rfl rfl
set_option maxRecDepth 100000 in
theorem fl_1074 : x_FL "LeaderTermsModel" 253 11 25 := x_tm 1189 rfl rfl
set_option maxRecDepth 100000 in
theorem fl_1075 : x_FL "LeaderTermsModel" 75 11 26 := x_tm 1190 rfl rfl
set_option maxRecDepth 100000 in
theorem fl_1076 : x_FL "LeaderTermsModel" 78 11 27 := x_tm 1191 rfl rfl
set_option maxRecDepth 100000 in
theorem fl_1077 : x_FL "LeaderTermsModel" 283 11 28 := x_tm 1192 rfl rfl
set_option maxRecDepth 100000 in
theorem fl_1078 : x_FL "LeaderTermsModel" 286 11 29 := x_tm 1193 rfl rfl
set_option maxRecDepth 100000 in
theorem fl_1079 : x_FL "LeaderTermsModel" 289 11 30 := x_tm 1194 rfl rfl
set_option maxRecDepth 100000 in
theorem fl_1080 : x_FL "LeaderTermsModel" 292 11 31 := x_tm 1195 rfl rfl
set_option maxRecDepth 100000 in
theorem fl_1081 : x_FL "LeaderTermsModel" 295 11 32 := x_tm 1196 rfl rfl
set_option maxRecDepth 100000 in
theorem fl_1082 : x_FL "LeaderTermsModel" 373 11 33 := x_tm 1197 rfl rfl
set_option maxRecDepth 100000 in
theorem fl_1083 : x_FL "LeaderTermsModel" 81 11 34 := x_tm 1198 rfl rfl
set_option maxRecDepth 100000 in
theorem fl_1084 : x_FL "LeaderTermsModel" 84 11 35 := x_tm 1199 rfl rfl
set_option maxRecDepth 100000 in
theorem fl_1085 : x_FL "LeaderTermsModel" 87 11 36 := x_tm 1200 rfl rfl
set_option maxRecDepth 100000 in
theorem fl_1086 : x_FL "LeaderTermsModel" 461 11 37 := x_tm 1201 rfl rfl
set_option maxRecDepth 100000 in
theorem fl_1087 : x_FL "LeaderTermsModel" 464 11 38 := x_tm 1202 rfl rfl
set_option maxRecDepth 100000 in
theorem fl_1088 : x_FL "LeaderTermsModel" 458 11 39 := x_tm 1203 rfl rfl
set_option maxRecDepth 100000 in
theorem fl_1089 : x_FL "LeaderTermsModel" 90 11 40 := x_tm 1204 rfl rfl
set_option maxRecDepth 100000 in
theorem fl_1090 : x_FL "LeaderTermsModel" 93 11 41 := x_tm 1205 rfl rfl
set_option maxRecDepth 100000 in
theorem fl_1091 : x_FL "LeaderTermsModel" 508 11 42 := x_tm 1206 rfl rfl
set_option maxRecDepth 100000 in
theorem fl_1092 : x_FL "LeaderTermsModel" 96 11 43 := x_tm 1207 rfl rfl
set_option maxRecDepth 100000 in
theorem fl_1093 : x_FL "LeaderTermsModel" 99 11 44 := x_tm 1208 rfl rfl
set_option maxRecDepth 100000 in
theorem fl_1094 : x_FL "LeaderTermsModel" 102 11 45 := x_tm 1209 rfl rfl
set_option maxRecDepth 100000 in
theorem fl_1095 : x_FL "LeaderTermsModel" 105 11 46 := x_tm 1210 rfl rfl
set_option maxRecDepth 100000 in
theorem fl_1096 : x_FL "LeaderTermsModel" 108 11 47 := x_tm 1211 rfl rfl
set_option maxRecDepth 100000 in
theorem fl_1097 : x_FL "LeaderTermsModel" 111 11 48 := x_tm 1212 rfl rfl
set_option maxRecDepth 100000 in
theorem fl_1098 : x_FL "LeaderTermsModel" 114 11 49 := x_tm 1213 rfl rfl
set_option maxRecDepth 100000 in
theorem fl_1099 : x_FL "LeaderTermsModel" 117 11 50 := x_tm 1214 rfl rfl
set_option maxRecDepth 100000 in
theorem fl_1100 : x_FL "LeaderTermsModel" 525 11 51 := x_tm 1215 rfl rfl
set_option maxRecDepth 100000 in
theorem fl_1101 : x_FL "LeaderTermsModel" 529 11 52 := x_tm 1216 rfl rfl
set_option maxRecDepth 100000 in
theorem fl_1102 : x_FL "LeaderTermsModel" 120 11 53 := x_tm 1217 rfl rfl
set_option maxRecDepth 100000 in
theorem fl_1103 : x_FL "LeaderTermsModel" 123 11 54 := x_tm 1218 rfl rfl
set_option maxRecDepth 100000 in
theorem fl_1104 : x_FL "LeaderTermsModel" 126 11 55 := x_tm 1219 rfl rfl
set_option maxRecDepth 100000 in
theorem fl_1105 : x_FL "LeaderTermsModel" 129 11 56 := x_tm 1220 rfl rfl
set_option maxRecDepth 100000 in
theorem fl_1106 : x_FL "LeaderTermsModel" 132 11 57 := x_tm 1221 rfl rfl
set_option maxRecDepth 100000 in
theorem fs_413 : Cond.fieldLinkNest "LeaderTerms$Follower" 32 "LeaderTerms" "FIRST_TRAIT" "[I" "LeaderTerms" ∈ lw_tbl := List.mem_of_getElem? (i := 528) rfl
set_option maxRecDepth 100000 in
theorem fs_544 : Cond.fieldLink "LeaderTerms" 143 "LeaderTerms" "LEAST_TRAIT" "[I" ∈ x_tb := x_tm 659 rfl rfl
set_option maxRecDepth 100000 in
theorem fs_546 : Cond.fieldLink "LeaderTerms" 146 "LeaderTerms" "GREATEST_TRAIT" "[I" ∈ x_tb := x_tm 661 rfl rfl
set_option maxRecDepth 100000 in
theorem fs_1007 : Cond.fieldLinkNest "LeaderTerms$Follower" 51 "LeaderTerms" "KIND_ABOVE" "[I" "LeaderTerms" ∈ lw_tbl := List.mem_of_getElem? (i := 1122) rfl
set_option maxRecDepth 100000 in
theorem ml_396 : Cond.methodLink "LeaderTerms" 84 ⟨"LeaderTerms", "isNoKind", "(I)Z"⟩ ∈ x_tb := x_tm 511 rfl rfl
set_option maxRecDepth 100000 in
theorem ml_400 : Cond.methodLink "LeaderTerms" 88 ⟨"LeaderTerms", "tell", "(I)I"⟩ ∈ x_tb := x_tm 515 rfl rfl
set_option maxRecDepth 100000 in
theorem ml_405 : Cond.methodLink "LeaderTerms" 100 ⟨"LeaderTerms$Follower", "begin", "(II)V"⟩ ∈ x_tb := x_tm 520 rfl rfl
set_option maxRecDepth 100000 in
theorem ml_409 : Cond.methodLink "LeaderTerms$Follower" 21 ⟨"LeaderTerms$Follower", "setKind", "(I)V"⟩ ∈ x_tb := x_tm 524 rfl rfl
set_option maxRecDepth 100000 in
theorem ml_415 : Cond.methodLink "LeaderTerms$Follower" 35 ⟨"LeaderTerms$Follower", "fillRow", "(IIIII)V"⟩ ∈ x_tb := x_tm 530 rfl rfl
set_option maxRecDepth 100000 in
theorem ml_419 : Cond.methodLink "LeaderTerms" 108 ⟨"LeaderTerms$Plans", "findAll", "()V"⟩ ∈ x_tb := x_tm 534 rfl rfl
set_option maxRecDepth 100000 in
theorem ml_423 : Cond.methodLink "LeaderTerms$Plans" 53 ⟨"LeaderTerms$Follower", "pairs", "()I"⟩ ∈ x_tb := x_tm 538 rfl rfl
set_option maxRecDepth 100000 in
theorem ml_427 : Cond.methodLink "LeaderTerms$Plans" 59 ⟨"java/lang/Integer", "bitCount", "(I)I"⟩ ∈ x_tb := x_tm 542 rfl rfl
set_option maxRecDepth 100000 in
theorem ml_433 : Cond.methodLink "LeaderTerms$Plans" 68 ⟨"LeaderTerms$Square", "solveAmounts", "(LLeaderTerms$Follower;I)Z"⟩ ∈ x_tb := x_tm 548 rfl rfl
set_option maxRecDepth 100000 in
theorem ml_437 : Cond.methodLink "LeaderTerms$Square" 27 ⟨"LeaderTerms$Square", "clear", "(I)V"⟩ ∈ x_tb := x_tm 552 rfl rfl
set_option maxRecDepth 100000 in
theorem ml_441 : Cond.methodLink "LeaderTerms$Square" 31 ⟨"LeaderTerms$Follower", "pairs", "()I"⟩ ∈ x_tb := x_tm 556 rfl rfl
set_option maxRecDepth 100000 in
theorem ml_442 : Cond.methodLink "LeaderTerms$Square" 35 ⟨"LeaderTerms$Square", "cellOf", "(LLeaderTerms$Follower;II)J"⟩ ∈ x_tb := x_tm 557 rfl rfl
set_option maxRecDepth 100000 in
theorem ml_445 : Cond.methodLink "LeaderTerms$Square" 46 ⟨"LeaderTerms$Square", "solve", "()Z"⟩ ∈ x_tb := x_tm 560 rfl rfl
set_option maxRecDepth 100000 in
theorem ml_449 : Cond.methodLink "LeaderTerms$Square" 70 ⟨"LeaderTerms$Square", "measure", "()J"⟩ ∈ x_tb := x_tm 564 rfl rfl
set_option maxRecDepth 100000 in
theorem ml_454 : Cond.methodLink "LeaderTerms$Square" 77 ⟨"LeaderTerms$Square", "turnColumn", "(I)V"⟩ ∈ x_tb := x_tm 569 rfl rfl
set_option maxRecDepth 100000 in
theorem ml_458 : Cond.methodLink "LeaderTerms$Plans" 74 ⟨"LeaderTerms$Plans", "tightPairs", "()I"⟩ ∈ x_tb := x_tm 573 rfl rfl
set_option maxRecDepth 100000 in
theorem ml_462 : Cond.methodLinkNest "LeaderTerms$Plans" 77 ⟨"LeaderTerms", "isOneOf", "([III)Z"⟩ "LeaderTerms" ∈ lw_tbl := List.mem_of_getElem? (i := 577) rfl
set_option maxRecDepth 100000 in
theorem ml_465 : Cond.methodLink "LeaderTerms$Plans" 81 ⟨"LeaderTerms$Plans", "insert", "(I)V"⟩ ∈ x_tb := x_tm 580 rfl rfl
set_option maxRecDepth 100000 in
theorem ml_469 : Cond.methodLink "LeaderTerms$Plans" 102 ⟨"LeaderTerms$Plans", "isBehind", "(I)Z"⟩ ∈ x_tb := x_tm 584 rfl rfl
set_option maxRecDepth 100000 in
theorem ml_473 : Cond.methodLink "LeaderTerms$Plans" 106 ⟨"java/lang/System", "arraycopy", "(Ljava/lang/Object;ILjava/lang/Object;II)V"⟩ ∈ x_tb := x_tm 588 rfl rfl
set_option maxRecDepth 100000 in
theorem ml_476 : Cond.methodLink "LeaderTerms$Plans" 85 ⟨"LeaderTerms$Plans", "sumUp", "()V"⟩ ∈ x_tb := x_tm 591 rfl rfl
set_option maxRecDepth 100000 in
theorem ml_480 : Cond.methodLink "LeaderTerms$Plans" 112 ⟨"LeaderTerms$Plans", "sumOf", "(II)J"⟩ ∈ x_tb := x_tm 595 rfl rfl
set_option maxRecDepth 100000 in
theorem ml_488 : Cond.methodLink "LeaderTerms" 113 ⟨"LeaderTerms", "isNoFollower", "(I)Z"⟩ ∈ x_tb := x_tm 603 rfl rfl
set_option maxRecDepth 100000 in
theorem ml_492 : Cond.methodLink "LeaderTerms" 119 ⟨"LeaderTerms$Follower", "setKind", "(I)V"⟩ ∈ x_tb := x_tm 607 rfl rfl
set_option maxRecDepth 100000 in
theorem ml_497 : Cond.methodLink "LeaderTerms" 133 ⟨"LeaderTerms$Market", "answerOf", "(I)I"⟩ ∈ x_tb := x_tm 612 rfl rfl
set_option maxRecDepth 100000 in
theorem ml_501 : Cond.methodLink "LeaderTerms$Market" 63 ⟨"LeaderTerms$Plans", "stand", "(JJ)V"⟩ ∈ x_tb := x_tm 616 rfl rfl
set_option maxRecDepth 100000 in
theorem ml_505 : Cond.methodLink "LeaderTerms$Plans" 122 ⟨"LeaderTerms$Follower", "feels", "(JJ)J"⟩ ∈ x_tb := x_tm 620 rfl rfl
set_option maxRecDepth 100000 in
theorem ml_509 : Cond.methodLink "LeaderTerms$Follower" 54 ⟨"LeaderTerms$Follower", "times", "()I"⟩ ∈ x_tb := x_tm 624 rfl rfl
set_option maxRecDepth 100000 in
theorem ml_513 : Cond.methodLink "LeaderTerms$Follower" 58 ⟨"LeaderTerms$Follower", "extra", "()I"⟩ ∈ x_tb := x_tm 628 rfl rfl
set_option maxRecDepth 100000 in
theorem ml_517 : Cond.methodLink "LeaderTerms$Plans" 126 ⟨"java/lang/Long", "compare", "(JJ)I"⟩ ∈ x_tb := x_tm 632 rfl rfl
set_option maxRecDepth 100000 in
theorem ml_520 : Cond.methodLink "LeaderTerms$Market" 67 ⟨"LeaderTerms$Plans", "choose", "(I)I"⟩ ∈ x_tb := x_tm 635 rfl rfl
set_option maxRecDepth 100000 in
theorem ml_524 : Cond.methodLink "LeaderTerms$Plans" 132 ⟨"LeaderTerms$Plans", "isChosenOver", "(III)Z"⟩ ∈ x_tb := x_tm 639 rfl rfl
set_option maxRecDepth 100000 in
theorem ml_528 : Cond.methodLink "LeaderTerms" 136 ⟨"LeaderTerms$Market", "bestPlansOf", "(I)I"⟩ ∈ x_tb := x_tm 643 rfl rfl
set_option maxRecDepth 100000 in
theorem ml_536 : Cond.methodLink "LeaderTerms" 139 ⟨"LeaderTerms", "isNoTrait", "(III)Z"⟩ ∈ x_tb := x_tm 651 rfl rfl
set_option maxRecDepth 100000 in
theorem ml_540 : Cond.methodLink "LeaderTerms" 204 ⟨"LeaderTerms", "isNoGood", "(II)Z"⟩ ∈ x_tb := x_tm 655 rfl rfl
set_option maxRecDepth 100000 in
theorem ml_548 : Cond.methodLink "LeaderTerms" 152 ⟨"LeaderTerms$Plans", "sumUp", "()V"⟩ ∈ x_tb := x_tm 663 rfl rfl
set_option maxRecDepth 100000 in
theorem ml_557 : Cond.methodLink "LeaderTerms" 155 ⟨"LeaderTerms", "isNoBound", "(I)Z"⟩ ∈ x_tb := x_tm 672 rfl rfl
set_option maxRecDepth 100000 in
theorem ml_561 : Cond.methodLink "LeaderTerms" 161 ⟨"LeaderTerms$Follower", "fillRow", "(IIIII)V"⟩ ∈ x_tb := x_tm 676 rfl rfl
set_option maxRecDepth 100000 in
theorem ml_570 : Cond.methodLink "LeaderTerms" 165 ⟨"LeaderTerms", "isNoRow", "(II)Z"⟩ ∈ x_tb := x_tm 685 rfl rfl
set_option maxRecDepth 100000 in
theorem ml_574 : Cond.methodLink "LeaderTerms" 169 ⟨"LeaderTerms$Follower", "dropRow", "(I)V"⟩ ∈ x_tb := x_tm 689 rfl rfl
set_option maxRecDepth 100000 in
theorem ml_578 : Cond.methodLink "LeaderTerms$Follower" 45 ⟨"java/lang/System", "arraycopy", "(Ljava/lang/Object;ILjava/lang/Object;II)V"⟩ ∈ x_tb := x_tm 693 rfl rfl
set_option maxRecDepth 100000 in
theorem ml_592 : Cond.methodLink "LeaderTerms" 190 ⟨"LeaderTerms$Fraction", "put", "(JJ)V"⟩ ∈ x_tb := x_tm 707 rfl rfl
set_option maxRecDepth 100000 in
theorem ml_596 : Cond.methodLink "LeaderTerms$Fraction" 13 ⟨"LeaderTerms$Fraction", "commonDivisor", "(JJ)J"⟩ ∈ x_tb := x_tm 711 rfl rfl
set_option maxRecDepth 100000 in
theorem ml_603 : Cond.methodLink "LeaderTerms" 194 ⟨"LeaderTerms", "isNoPart", "(I)Z"⟩ ∈ x_tb := x_tm 718 rfl rfl
set_option maxRecDepth 100000 in
theorem ml_607 : Cond.methodLink "LeaderTerms" 197 ⟨"LeaderTerms", "tellLong", "(I)J"⟩ ∈ x_tb := x_tm 722 rfl rfl
set_option maxRecDepth 100000 in
theorem ml_612 : Cond.methodLink "LeaderTerms" 201 ⟨"LeaderTerms$Fraction", "side", "(I)J"⟩ ∈ x_tb := x_tm 727 rfl rfl
set_option maxRecDepth 100000 in
theorem ml_620 : Cond.methodLink "LeaderTerms" 207 ⟨"LeaderTerms", "isNoPlan", "(II)Z"⟩ ∈ x_tb := x_tm 735 rfl rfl
set_option maxRecDepth 100000 in
theorem ml_632 : Cond.methodLink "LeaderTerms" 221 ⟨"LeaderTerms$Market", "standAll", "(JJ)V"⟩ ∈ x_tb := x_tm 747 rfl rfl
set_option maxRecDepth 100000 in
theorem ml_636 : Cond.methodLink "LeaderTerms" 224 ⟨"LeaderTerms$Market", "addUp", "(ZILLeaderTerms$Fraction;)V"⟩ ∈ x_tb := x_tm 751 rfl rfl
set_option maxRecDepth 100000 in
theorem ml_640 : Cond.methodLink "LeaderTerms$Market" 87 ⟨"LeaderTerms$Fraction", "put", "(JJ)V"⟩ ∈ x_tb := x_tm 755 rfl rfl
set_option maxRecDepth 100000 in
theorem ml_645 : Cond.methodLink "LeaderTerms" 228 ⟨"LeaderTerms", "findPrices", "(I)V"⟩ ∈ x_tb := x_tm 760 rfl rfl
set_option maxRecDepth 100000 in
theorem ml_649 : Cond.methodLink "LeaderTerms" 415 ⟨"LeaderTerms$Prices", "findAll", "(LLeaderTerms$Follower;LLeaderTerms$Fraction;)V"⟩ ∈ x_tb := x_tm 764 rfl rfl
set_option maxRecDepth 100000 in
theorem ml_653 : Cond.methodLink "LeaderTerms$Prices" 41 ⟨"LeaderTerms$Follower", "pairs", "()I"⟩ ∈ x_tb := x_tm 768 rfl rfl
set_option maxRecDepth 100000 in
theorem ml_654 : Cond.methodLink "LeaderTerms$Prices" 47 ⟨"java/lang/Integer", "bitCount", "(I)I"⟩ ∈ x_tb := x_tm 769 rfl rfl
set_option maxRecDepth 100000 in
theorem ml_655 : Cond.methodLink "LeaderTerms$Prices" 56 ⟨"LeaderTerms$Square", "solveWeights", "(LLeaderTerms$Follower;ILLeaderTerms$Fraction;)Z"⟩ ∈ x_tb := x_tm 770 rfl rfl
set_option maxRecDepth 100000 in
theorem ml_659 : Cond.methodLink "LeaderTerms$Square" 59 ⟨"LeaderTerms$Follower", "feels", "(JJ)J"⟩ ∈ x_tb := x_tm 774 rfl rfl
set_option maxRecDepth 100000 in
theorem ml_660 : Cond.methodLink "LeaderTerms$Square" 63 ⟨"LeaderTerms$Follower", "leftAbove", "(IJJ)J"⟩ ∈ x_tb := x_tm 775 rfl rfl
set_option maxRecDepth 100000 in
theorem ml_664 : Cond.methodLink "LeaderTerms$Prices" 62 ⟨"LeaderTerms$Prices", "tightPairs", "(LLeaderTerms$Follower;I)I"⟩ ∈ x_tb := x_tm 779 rfl rfl
set_option maxRecDepth 100000 in
theorem ml_668 : Cond.methodLinkNest "LeaderTerms$Prices" 66 ⟨"LeaderTerms", "isOneOf", "([III)Z"⟩ "LeaderTerms" ∈ lw_tbl := List.mem_of_getElem? (i := 783) rfl
set_option maxRecDepth 100000 in
theorem ml_669 : Cond.methodLink "LeaderTerms$Prices" 70 ⟨"LeaderTerms$Prices", "insert", "(LLeaderTerms$Follower;II)V"⟩ ∈ x_tb := x_tm 784 rfl rfl
set_option maxRecDepth 100000 in
theorem ml_673 : Cond.methodLink "LeaderTerms$Prices" 74 ⟨"LeaderTerms$Prices", "findProofs", "()V"⟩ ∈ x_tb := x_tm 788 rfl rfl
set_option maxRecDepth 100000 in
theorem ml_677 : Cond.methodLink "LeaderTerms$Prices" 93 ⟨"java/lang/Long", "compare", "(JJ)I"⟩ ∈ x_tb := x_tm 792 rfl rfl
set_option maxRecDepth 100000 in
theorem ml_678 : Cond.methodLink "LeaderTerms$Prices" 99 ⟨"LeaderTerms$Prices", "isAhead", "(II)Z"⟩ ∈ x_tb := x_tm 793 rfl rfl
set_option maxRecDepth 100000 in
theorem ml_682 : Cond.methodLink "LeaderTerms" 234 ⟨"LeaderTerms$Follower", "pairs", "()I"⟩ ∈ x_tb := x_tm 797 rfl rfl
set_option maxRecDepth 100000 in
theorem ml_683 : Cond.methodLink "LeaderTerms" 238 ⟨"LeaderTerms", "liveNodes", "(LLeaderTerms$Plans;I)I"⟩ ∈ x_tb := x_tm 798 rfl rfl
set_option maxRecDepth 100000 in
theorem ml_687 : Cond.methodLink "LeaderTerms" 242 ⟨"LeaderTerms", "isLive", "(LLeaderTerms$Plans;II)Z"⟩ ∈ x_tb := x_tm 802 rfl rfl
set_option maxRecDepth 100000 in
theorem ml_691 : Cond.methodLink "LeaderTerms" 421 ⟨"LeaderTerms", "isWithinOneOf", "([III)Z"⟩ ∈ x_tb := x_tm 806 rfl rfl
set_option maxRecDepth 100000 in
theorem ml_706 : Cond.methodLink "LeaderTerms" 246 ⟨"LeaderTerms$Prices", "tellProof", "(ILLeaderTerms$Fraction;)V"⟩ ∈ x_tb := x_tm 821 rfl rfl
set_option maxRecDepth 100000 in
theorem ml_710 : Cond.methodLink "LeaderTerms$Prices" 103 ⟨"LeaderTerms$Fraction", "put", "(JJ)V"⟩ ∈ x_tb := x_tm 825 rfl rfl
set_option maxRecDepth 100000 in
theorem ml_715 : Cond.methodLink "LeaderTerms" 250 ⟨"LeaderTerms", "isNoSheet", "(I)Z"⟩ ∈ x_tb := x_tm 830 rfl rfl
set_option maxRecDepth 100000 in
theorem ml_719 : Cond.methodLink "LeaderTerms" 253 ⟨"LeaderTerms$Row", "tellsPrices", "(I)Z"⟩ ∈ x_tb := x_tm 834 rfl rfl
set_option maxRecDepth 100000 in
theorem ml_725 : Cond.methodLink "LeaderTerms" 256 ⟨"LeaderTerms", "tooLittleFor", "(LLeaderTerms$Row;LLeaderTerms$Follower;)I"⟩ ∈ x_tb := x_tm 840 rfl rfl
set_option maxRecDepth 100000 in
theorem ml_729 : Cond.methodLink "LeaderTerms" 427 ⟨"LeaderTerms$Follower", "feels", "(JJ)J"⟩ ∈ x_tb := x_tm 844 rfl rfl
set_option maxRecDepth 100000 in
theorem ml_730 : Cond.methodLink "LeaderTerms" 431 ⟨"LeaderTerms$Follower", "leftAbove", "(IJJ)J"⟩ ∈ x_tb := x_tm 845 rfl rfl
set_option maxRecDepth 100000 in
theorem ml_731 : Cond.methodLink "LeaderTerms" 260 ⟨"LeaderTerms", "isAboveNet", "(LLeaderTerms$Row;I)Z"⟩ ∈ x_tb := x_tm 846 rfl rfl
set_option maxRecDepth 100000 in
theorem ml_735 : Cond.methodLink "LeaderTerms" 435 ⟨"LeaderTerms$Fraction", "order", "(JJJJ)I"⟩ ∈ x_tb := x_tm 850 rfl rfl
set_option maxRecDepth 100000 in
theorem ml_738 : Cond.methodLink "LeaderTerms$Fraction" 24 ⟨"java/lang/Math", "floorDiv", "(JJ)J"⟩ ∈ x_tb := x_tm 853 rfl rfl
set_option maxRecDepth 100000 in
theorem ml_741 : Cond.methodLink "LeaderTerms$Fraction" 29 ⟨"java/lang/Long", "compare", "(JJ)I"⟩ ∈ x_tb := x_tm 856 rfl rfl
set_option maxRecDepth 100000 in
theorem ml_746 : Cond.methodLink "LeaderTerms" 264 ⟨"LeaderTerms$Market", "gatherBreaks", "(II)V"⟩ ∈ x_tb := x_tm 861 rfl rfl
set_option maxRecDepth 100000 in
theorem ml_750 : Cond.methodLink "LeaderTerms$Market" 102 ⟨"LeaderTerms$Plans", "addBreaks", "(ILLeaderTerms$Breaks;)V"⟩ ∈ x_tb := x_tm 865 rfl rfl
set_option maxRecDepth 100000 in
theorem ml_754 : Cond.methodLink "LeaderTerms$Plans" 139 ⟨"LeaderTerms$Plans", "stand", "(JJ)V"⟩ ∈ x_tb := x_tm 869 rfl rfl
set_option maxRecDepth 100000 in
theorem ml_755 : Cond.methodLink "LeaderTerms$Plans" 143 ⟨"LeaderTerms$Plans", "choose", "(I)I"⟩ ∈ x_tb := x_tm 870 rfl rfl
set_option maxRecDepth 100000 in
theorem ml_756 : Cond.methodLink "LeaderTerms$Plans" 146 ⟨"LeaderTerms$Plans", "nextTurn", "(I)I"⟩ ∈ x_tb := x_tm 871 rfl rfl
set_option maxRecDepth 100000 in
theorem ml_760 : Cond.methodLink "LeaderTerms$Plans" 149 ⟨"LeaderTerms$Plans", "tollLess", "(II)J"⟩ ∈ x_tb := x_tm 875 rfl rfl
set_option maxRecDepth 100000 in
theorem ml_764 : Cond.methodLink "LeaderTerms$Plans" 165 ⟨"LeaderTerms$Plans", "turnsAhead", "(III)Z"⟩ ∈ x_tb := x_tm 879 rfl rfl
set_option maxRecDepth 100000 in
theorem ml_768 : Cond.methodLink "LeaderTerms$Plans" 152 ⟨"LeaderTerms$Plans", "worthLess", "(II)J"⟩ ∈ x_tb := x_tm 883 rfl rfl
set_option maxRecDepth 100000 in
theorem ml_772 : Cond.methodLink "LeaderTerms$Plans" 155 ⟨"LeaderTerms$Follower", "extra", "()I"⟩ ∈ x_tb := x_tm 887 rfl rfl
set_option maxRecDepth 100000 in
theorem ml_773 : Cond.methodLink "LeaderTerms$Plans" 158 ⟨"LeaderTerms$Follower", "times", "()I"⟩ ∈ x_tb := x_tm 888 rfl rfl
set_option maxRecDepth 100000 in
theorem ml_774 : Cond.methodLink "LeaderTerms$Plans" 161 ⟨"LeaderTerms$Breaks", "insert", "(JJ)V"⟩ ∈ x_tb := x_tm 889 rfl rfl
set_option maxRecDepth 100000 in
theorem ml_778 : Cond.methodLink "LeaderTerms$Breaks" 25 ⟨"LeaderTerms$Fraction", "put", "(JJ)V"⟩ ∈ x_tb := x_tm 893 rfl rfl
set_option maxRecDepth 100000 in
theorem ml_787 : Cond.methodLink "LeaderTerms" 277 ⟨"LeaderTerms$Market", "tellPiece", "(I[JI)V"⟩ ∈ x_tb := x_tm 902 rfl rfl
set_option maxRecDepth 100000 in
theorem ml_791 : Cond.methodLink "LeaderTerms$Market" 90 ⟨"LeaderTerms$Market", "standAll", "(JJ)V"⟩ ∈ x_tb := x_tm 906 rfl rfl
set_option maxRecDepth 100000 in
theorem ml_792 : Cond.methodLink "LeaderTerms$Market" 93 ⟨"LeaderTerms$Market", "addUp", "(ZILLeaderTerms$Fraction;)V"⟩ ∈ x_tb := x_tm 907 rfl rfl
set_option maxRecDepth 100000 in
theorem ml_793 : Cond.methodLink "LeaderTerms$Market" 109 ⟨"LeaderTerms$Market", "putSum", "([JI)V"⟩ ∈ x_tb := x_tm 908 rfl rfl
set_option maxRecDepth 100000 in
theorem ml_801 : Cond.methodLink "LeaderTerms" 281 ⟨"LeaderTerms$Market", "seekBest", "(I)V"⟩ ∈ x_tb := x_tm 916 rfl rfl
set_option maxRecDepth 100000 in
theorem ml_805 : Cond.methodLink "LeaderTerms$Market" 116 ⟨"LeaderTerms$Market", "gatherBreaks", "(II)V"⟩ ∈ x_tb := x_tm 920 rfl rfl
set_option maxRecDepth 100000 in
theorem ml_806 : Cond.methodLink "LeaderTerms$Market" 123 ⟨"LeaderTerms$Market", "offerTerm", "(JJI)V"⟩ ∈ x_tb := x_tm 921 rfl rfl
set_option maxRecDepth 100000 in
theorem ml_810 : Cond.methodLink "LeaderTerms$Market" 127 ⟨"LeaderTerms$Fraction", "orderTo", "(LLeaderTerms$Fraction;)I"⟩ ∈ x_tb := x_tm 925 rfl rfl
set_option maxRecDepth 100000 in
theorem ml_814 : Cond.methodLink "LeaderTerms$Fraction" 20 ⟨"LeaderTerms$Fraction", "order", "(JJJJ)I"⟩ ∈ x_tb := x_tm 929 rfl rfl
set_option maxRecDepth 100000 in
theorem ml_815 : Cond.methodLink "LeaderTerms$Market" 131 ⟨"LeaderTerms$Fraction", "take", "(LLeaderTerms$Fraction;)V"⟩ ∈ x_tb := x_tm 930 rfl rfl
set_option maxRecDepth 100000 in
theorem ml_819 : Cond.methodLink "LeaderTerms" 284 ⟨"LeaderTerms$Market", "tellBest", "(I)J"⟩ ∈ x_tb := x_tm 934 rfl rfl
set_option maxRecDepth 100000 in
theorem ml_823 : Cond.methodLink "LeaderTerms$Market" 135 ⟨"LeaderTerms$Fraction", "side", "(I)J"⟩ ∈ x_tb := x_tm 938 rfl rfl
set_option maxRecDepth 100000 in
theorem ml_832 : Cond.methodLink "LeaderTerms" 290 ⟨"LeaderTerms$Fraction", "take", "(LLeaderTerms$Fraction;)V"⟩ ∈ x_tb := x_tm 947 rfl rfl
set_option maxRecDepth 100000 in
theorem ml_837 : Cond.methodLink "LeaderTerms" 297 ⟨"LeaderTerms", "isGreater", "()Z"⟩ ∈ x_tb := x_tm 952 rfl rfl
set_option maxRecDepth 100000 in
theorem ml_841 : Cond.methodLink "LeaderTerms" 450 ⟨"LeaderTerms$Fraction", "orderTo", "(LLeaderTerms$Fraction;)I"⟩ ∈ x_tb := x_tm 956 rfl rfl
set_option maxRecDepth 100000 in
theorem ml_850 : Cond.methodLink "LeaderTerms" 304 ⟨"LeaderTerms$Follower", "becomeLike", "(LLeaderTerms$Follower;)V"⟩ ∈ x_tb := x_tm 965 rfl rfl
set_option maxRecDepth 100000 in
theorem ml_862 : Cond.methodLink "LeaderTerms" 311 ⟨"LeaderTerms$Market", "cutTotal", "()I"⟩ ∈ x_tb := x_tm 977 rfl rfl
set_option maxRecDepth 100000 in
theorem ml_866 : Cond.methodLink "LeaderTerms$Market" 97 ⟨"LeaderTerms$Fraction", "cut", "()J"⟩ ∈ x_tb := x_tm 981 rfl rfl
set_option maxRecDepth 100000 in
theorem ml_870 : Cond.methodLink "LeaderTerms" 314 ⟨"LeaderTerms$World", "enter", "(I)Z"⟩ ∈ x_tb := x_tm 985 rfl rfl
set_option maxRecDepth 100000 in
theorem ml_874 : Cond.methodLinkNest "LeaderTerms$World" 55 ⟨"LeaderTerms", "isSumOver", "(JJ)Z"⟩ "LeaderTerms" ∈ lw_tbl := List.mem_of_getElem? (i := 989) rfl
set_option maxRecDepth 100000 in
theorem ml_881 : Cond.methodLink "LeaderTerms" 323 ⟨"LeaderTerms$World", "drawTerm", "()V"⟩ ∈ x_tb := x_tm 996 rfl rfl
set_option maxRecDepth 100000 in
theorem ml_886 : Cond.methodLink "LeaderTerms$World" 51 ⟨"LeaderTerms$Fraction", "put", "(JJ)V"⟩ ∈ x_tb := x_tm 1001 rfl rfl
set_option maxRecDepth 100000 in
theorem ml_891 : Cond.methodLink "LeaderTerms" 326 ⟨"LeaderTerms", "isSumOver", "(JJ)Z"⟩ ∈ x_tb := x_tm 1006 rfl rfl
set_option maxRecDepth 100000 in
theorem ml_892 : Cond.methodLink "LeaderTerms" 330 ⟨"LeaderTerms", "isProductOver", "(JJ)Z"⟩ ∈ x_tb := x_tm 1007 rfl rfl
set_option maxRecDepth 100000 in
theorem ml_905 : Cond.methodLink "LeaderTerms" 337 ⟨"LeaderTerms", "answersAs", "(LLeaderTerms$Plans;LLeaderTerms$Row;)Z"⟩ ∈ x_tb := x_tm 1020 rfl rfl
set_option maxRecDepth 100000 in
theorem ml_910 : Cond.methodLink "LeaderTerms" 441 ⟨"LeaderTerms$Plans", "stand", "(JJ)V"⟩ ∈ x_tb := x_tm 1025 rfl rfl
set_option maxRecDepth 100000 in
theorem ml_911 : Cond.methodLink "LeaderTerms" 444 ⟨"LeaderTerms$Plans", "choose", "(I)I"⟩ ∈ x_tb := x_tm 1026 rfl rfl
set_option maxRecDepth 100000 in
theorem ml_912 : Cond.methodLink "LeaderTerms" 447 ⟨"LeaderTerms$Plans", "cutGain", "(I)J"⟩ ∈ x_tb := x_tm 1027 rfl rfl
set_option maxRecDepth 100000 in
theorem ml_916 : Cond.methodLink "LeaderTerms" 341 ⟨"java/lang/Integer", "bitCount", "(I)I"⟩ ∈ x_tb := x_tm 1031 rfl rfl
set_option maxRecDepth 100000 in
theorem ml_925 : Cond.methodLink "LeaderTerms" 349 ⟨"LeaderTerms", "isNoPieceNumber", "(II)Z"⟩ ∈ x_tb := x_tm 1040 rfl rfl
set_option maxRecDepth 100000 in
theorem ml_937 : Cond.methodLink "LeaderTerms" 352 ⟨"java/lang/Math", "min", "(II)I"⟩ ∈ x_tb := x_tm 1052 rfl rfl
set_option maxRecDepth 100000 in
theorem ml_965 : Cond.methodLink "LeaderTerms" 360 ⟨"LeaderTerms$Row", "lacks", "(I)Z"⟩ ∈ x_tb := x_tm 1080 rfl rfl
set_option maxRecDepth 100000 in
theorem ml_969 : Cond.methodLink "LeaderTerms" 363 ⟨"LeaderTerms$Row", "put", "(IJ)V"⟩ ∈ x_tb := x_tm 1084 rfl rfl
set_option maxRecDepth 100000 in
theorem ml_981 : Cond.methodLink "LeaderTerms" 371 ⟨"java/lang/System", "arraycopy", "(Ljava/lang/Object;ILjava/lang/Object;II)V"⟩ ∈ x_tb := x_tm 1096 rfl rfl
set_option maxRecDepth 100000 in
theorem ml_986 : Cond.methodLink "LeaderTerms" 377 ⟨"LeaderTerms", "isNoSpot", "(I)Z"⟩ ∈ x_tb := x_tm 1101 rfl rfl
set_option maxRecDepth 100000 in
theorem ml_990 : Cond.methodLink "LeaderTerms" 380 ⟨"LeaderTerms$Spot", "keep", "(IILLeaderTerms$Row;)V"⟩ ∈ x_tb := x_tm 1105 rfl rfl
set_option maxRecDepth 100000 in
theorem ml_994 : Cond.methodLink "LeaderTerms" 384 ⟨"LeaderTerms$Fraction", "cut", "()J"⟩ ∈ x_tb := x_tm 1109 rfl rfl
set_option maxRecDepth 100000 in
theorem ml_999 : Cond.methodLink "LeaderTerms" 388 ⟨"LeaderTerms$Spot", "holdsNow", "(LLeaderTerms$World;)Z"⟩ ∈ x_tb := x_tm 1114 rfl rfl
set_option maxRecDepth 100000 in
theorem ml_1003 : Cond.methodLink "LeaderTerms" 394 ⟨"LeaderTerms$Follower", "isOfKind", "(I)Z"⟩ ∈ x_tb := x_tm 1118 rfl rfl
set_option maxRecDepth 100000 in
theorem ml_1013 : Cond.methodLink "LeaderTerms" 401 ⟨"LeaderTerms$World", "takeAll", "(LLeaderTerms$World;)V"⟩ ∈ x_tb := x_tm 1128 rfl rfl
set_option maxRecDepth 100000 in
theorem ml_1017 : Cond.methodLink "LeaderTerms$World" 42 ⟨"LeaderTerms$Fraction", "take", "(LLeaderTerms$Fraction;)V"⟩ ∈ x_tb := x_tm 1132 rfl rfl
set_option maxRecDepth 100000 in
theorem ml_1018 : Cond.methodLink "LeaderTerms$World" 46 ⟨"LeaderTerms$Follower", "becomeLike", "(LLeaderTerms$Follower;)V"⟩ ∈ x_tb := x_tm 1133 rfl rfl
set_option maxRecDepth 100000 in
theorem ml_1027 : Cond.methodLink "LeaderTerms" 409 ⟨"LeaderTerms", "fullSpots", "()I"⟩ ∈ x_tb := x_tm 1142 rfl rfl
set_option maxRecDepth 100000 in
theorem ml_1229 : Cond.methodLink "LeaderTermsModel" 298 ⟨"LeaderTermsModel", "in", "(JJJ)Z"⟩ ∈ x_tb := x_tm 1344 rfl rfl
set_option maxRecDepth 100000 in
theorem ml_1233 : Cond.methodLink "LeaderTermsModel" 310 ⟨"LeaderTermsModel", "finds", "(I)I"⟩ ∈ x_tb := x_tm 1348 rfl rfl
set_option maxRecDepth 100000 in
theorem ml_1242 : Cond.methodLink "LeaderTermsModel" 302 ⟨"LeaderTermsModel", "isFollower", "(I)Z"⟩ ∈ x_tb := x_tm 1357 rfl rfl
set_option maxRecDepth 100000 in
theorem ml_1251 : Cond.methodLink "LeaderTermsModel" 203 ⟨"LeaderTermsModel", "plans", "(I)V"⟩ ∈ x_tb := x_tm 1366 rfl rfl
set_option maxRecDepth 100000 in
theorem ml_1255 : Cond.methodLink "LeaderTermsModel" 164 ⟨"LeaderTermsModel", "pairs", "(I)I"⟩ ∈ x_tb := x_tm 1370 rfl rfl
set_option maxRecDepth 100000 in
theorem ml_1259 : Cond.methodLink "LeaderTermsModel" 179 ⟨"java/lang/Integer", "bitCount", "(I)I"⟩ ∈ x_tb := x_tm 1374 rfl rfl
set_option maxRecDepth 100000 in
theorem ml_1260 : Cond.methodLink "LeaderTermsModel" 184 ⟨"LeaderTermsModel", "laysPrimal", "(II)V"⟩ ∈ x_tb := x_tm 1375 rfl rfl
set_option maxRecDepth 100000 in
theorem ml_1264 : Cond.methodLink "LeaderTermsModel" 188 ⟨"LeaderTermsModel", "solves", "()J"⟩ ∈ x_tb := x_tm 1379 rfl rfl
set_option maxRecDepth 100000 in
theorem ml_1268 : Cond.methodLink "LeaderTermsModel" 156 ⟨"LeaderTermsModel", "determinant", "(II)J"⟩ ∈ x_tb := x_tm 1383 rfl rfl
set_option maxRecDepth 100000 in
theorem ml_1272 : Cond.methodLink "LeaderTermsModel" 160 ⟨"LeaderTermsModel", "swapped", "(I)J"⟩ ∈ x_tb := x_tm 1387 rfl rfl
set_option maxRecDepth 100000 in
theorem ml_1276 : Cond.methodLink "LeaderTermsModel" 192 ⟨"LeaderTermsModel", "mayChoose", "(IJ)Z"⟩ ∈ x_tb := x_tm 1391 rfl rfl
set_option maxRecDepth 100000 in
theorem ml_1280 : Cond.methodLink "LeaderTermsModel" 168 ⟨"LeaderTermsModel", "rowSum", "(II)J"⟩ ∈ x_tb := x_tm 1395 rfl rfl
set_option maxRecDepth 100000 in
theorem ml_1284 : Cond.methodLink "LeaderTermsModel" 196 ⟨"LeaderTermsModel", "takesPlan", "(IJ)V"⟩ ∈ x_tb := x_tm 1399 rfl rfl
set_option maxRecDepth 100000 in
theorem ml_1288 : Cond.methodLink "LeaderTermsModel" 171 ⟨"LeaderTermsModel", "order", "(IIJ)I"⟩ ∈ x_tb := x_tm 1403 rfl rfl
set_option maxRecDepth 100000 in
theorem ml_1292 : Cond.methodLink "LeaderTermsModel" 175 ⟨"LeaderTermsModel", "tightPrimal", "(IJ)I"⟩ ∈ x_tb := x_tm 1407 rfl rfl
set_option maxRecDepth 100000 in
theorem ml_1296 : Cond.methodLink "LeaderTermsModel" 318 ⟨"LeaderTermsModel", "answer", "(IJJ)I"⟩ ∈ x_tb := x_tm 1411 rfl rfl
set_option maxRecDepth 100000 in
theorem ml_1300 : Cond.methodLink "LeaderTermsModel" 230 ⟨"LeaderTermsModel", "bestPlans", "(IJJ)I"⟩ ∈ x_tb := x_tm 1415 rfl rfl
set_option maxRecDepth 100000 in
theorem ml_1304 : Cond.methodLink "LeaderTermsModel" 217 ⟨"LeaderTermsModel", "net", "(IIJJ)J"⟩ ∈ x_tb := x_tm 1419 rfl rfl
set_option maxRecDepth 100000 in
theorem ml_1308 : Cond.methodLink "LeaderTermsModel" 207 ⟨"LeaderTermsModel", "times", "(III)J"⟩ ∈ x_tb := x_tm 1423 rfl rfl
set_option maxRecDepth 100000 in
theorem ml_1312 : Cond.methodLink "LeaderTermsModel" 211 ⟨"LeaderTermsModel", "twice", "(I)I"⟩ ∈ x_tb := x_tm 1427 rfl rfl
set_option maxRecDepth 100000 in
theorem ml_1316 : Cond.methodLink "LeaderTermsModel" 214 ⟨"LeaderTermsModel", "more", "(I)I"⟩ ∈ x_tb := x_tm 1431 rfl rfl
set_option maxRecDepth 100000 in
theorem ml_1320 : Cond.methodLink "LeaderTermsModel" 234 ⟨"LeaderTermsModel", "chosen", "(IIJJ)I"⟩ ∈ x_tb := x_tm 1435 rfl rfl
set_option maxRecDepth 100000 in
theorem ml_1324 : Cond.methodLink "LeaderTermsModel" 221 ⟨"java/lang/Integer", "numberOfTrailingZeros", "(I)I"⟩ ∈ x_tb := x_tm 1439 rfl rfl
set_option maxRecDepth 100000 in
theorem ml_1328 : Cond.methodLink "LeaderTermsModel" 224 ⟨"java/lang/Integer", "numberOfLeadingZeros", "(I)I"⟩ ∈ x_tb := x_tm 1443 rfl rfl
set_option maxRecDepth 100000 in
theorem ml_1331 : Cond.methodLink "LeaderTermsModel" 227 ⟨"LeaderTermsModel", "gain", "(IIJJ)J"⟩ ∈ x_tb := x_tm 1446 rfl rfl
set_option maxRecDepth 100000 in
theorem ml_1339 : Cond.methodLink "LeaderTermsModel" 326 ⟨"LeaderTermsModel", "isGood", "(II)Z"⟩ ∈ x_tb := x_tm 1454 rfl rfl
set_option maxRecDepth 100000 in
theorem ml_1343 : Cond.methodLink "LeaderTermsModel" 330 ⟨"LeaderTermsModel", "isOfGood", "(II)Z"⟩ ∈ x_tb := x_tm 1458 rfl rfl
set_option maxRecDepth 100000 in
theorem ml_1359 : Cond.methodLink "LeaderTermsModel" 337 ⟨"LeaderTermsModel", "numbers", "(IIIII)V"⟩ ∈ x_tb := x_tm 1474 rfl rfl
set_option maxRecDepth 100000 in
theorem ml_1372 : Cond.methodLink "LeaderTermsModel" 343 ⟨"LeaderTermsModel", "isRow", "(II)Z"⟩ ∈ x_tb := x_tm 1487 rfl rfl
set_option maxRecDepth 100000 in
theorem ml_1376 : Cond.methodLink "LeaderTermsModel" 346 ⟨"LeaderTermsModel", "takesOut", "(II)V"⟩ ∈ x_tb := x_tm 1491 rfl rfl
set_option maxRecDepth 100000 in
theorem ml_1394 : Cond.methodLink "LeaderTermsModel" 353 ⟨"LeaderTermsModel", "part", "(JJI)J"⟩ ∈ x_tb := x_tm 1509 rfl rfl
set_option maxRecDepth 100000 in
theorem ml_1397 : Cond.methodLink "LeaderTermsModel" 150 ⟨"LeaderTermsModel", "divisor", "(JJ)J"⟩ ∈ x_tb := x_tm 1512 rfl rfl
set_option maxRecDepth 100000 in
theorem ml_1404 : Cond.methodLink "LeaderTermsModel" 357 ⟨"LeaderTermsModel", "isPart", "(I)Z"⟩ ∈ x_tb := x_tm 1519 rfl rfl
set_option maxRecDepth 100000 in
theorem ml_1407 : Cond.methodLink "LeaderTermsModel" 360 ⟨"LeaderTermsModel", "findsLong", "(I)J"⟩ ∈ x_tb := x_tm 1522 rfl rfl
set_option maxRecDepth 100000 in
theorem ml_1425 : Cond.methodLink "LeaderTermsModel" 365 ⟨"LeaderTermsModel", "plans", "()V"⟩ ∈ x_tb := x_tm 1540 rfl rfl
set_option maxRecDepth 100000 in
theorem ml_1429 : Cond.methodLink "LeaderTermsModel" 279 ⟨"LeaderTermsModel", "totals", "(JJI)V"⟩ ∈ x_tb := x_tm 1544 rfl rfl
set_option maxRecDepth 100000 in
theorem ml_1433 : Cond.methodLink "LeaderTermsModel" 242 ⟨"LeaderTermsModel", "sums", "()V"⟩ ∈ x_tb := x_tm 1548 rfl rfl
set_option maxRecDepth 100000 in
theorem ml_1437 : Cond.methodLink "LeaderTermsModel" 245 ⟨"LeaderTermsModel", "answer", "(IJJI)I"⟩ ∈ x_tb := x_tm 1552 rfl rfl
set_option maxRecDepth 100000 in
theorem ml_1441 : Cond.methodLink "LeaderTermsModel" 238 ⟨"LeaderTermsModel", "byTolls", "(IIZ)I"⟩ ∈ x_tb := x_tm 1556 rfl rfl
set_option maxRecDepth 100000 in
theorem ml_1445 : Cond.methodLink "LeaderTermsModel" 249 ⟨"LeaderTermsModel", "adds", "(JJ)V"⟩ ∈ x_tb := x_tm 1560 rfl rfl
set_option maxRecDepth 100000 in
theorem ml_1453 : Cond.methodLink "LeaderTermsModel" 410 ⟨"LeaderTermsModel", "bothOf", "(I)V"⟩ ∈ x_tb := x_tm 1568 rfl rfl
set_option maxRecDepth 100000 in
theorem ml_1457 : Cond.methodLink "LeaderTermsModel" 392 ⟨"LeaderTermsModel", "prices", "(I)V"⟩ ∈ x_tb := x_tm 1572 rfl rfl
set_option maxRecDepth 100000 in
theorem ml_1461 : Cond.methodLink "LeaderTermsModel" 379 ⟨"LeaderTermsModel", "laysDual", "(II)V"⟩ ∈ x_tb := x_tm 1576 rfl rfl
set_option maxRecDepth 100000 in
theorem ml_1465 : Cond.methodLink "LeaderTermsModel" 367 ⟨"LeaderTermsModel", "due", "(II)J"⟩ ∈ x_tb := x_tm 1580 rfl rfl
set_option maxRecDepth 100000 in
theorem ml_1469 : Cond.methodLink "LeaderTermsModel" 382 ⟨"LeaderTermsModel", "arePrices", "(IJ)Z"⟩ ∈ x_tb := x_tm 1584 rfl rfl
set_option maxRecDepth 100000 in
theorem ml_1473 : Cond.methodLink "LeaderTermsModel" 370 ⟨"LeaderTermsModel", "goodSum", "(II)J"⟩ ∈ x_tb := x_tm 1588 rfl rfl
set_option maxRecDepth 100000 in
theorem ml_1477 : Cond.methodLink "LeaderTermsModel" 385 ⟨"LeaderTermsModel", "takesPrices", "(IJ)V"⟩ ∈ x_tb := x_tm 1592 rfl rfl
set_option maxRecDepth 100000 in
theorem ml_1481 : Cond.methodLink "LeaderTermsModel" 376 ⟨"LeaderTermsModel", "tightDual", "(IJ)I"⟩ ∈ x_tb := x_tm 1596 rfl rfl
set_option maxRecDepth 100000 in
theorem ml_1485 : Cond.methodLink "LeaderTermsModel" 413 ⟨"LeaderTermsModel", "openMany", "(I)I"⟩ ∈ x_tb := x_tm 1600 rfl rfl
set_option maxRecDepth 100000 in
theorem ml_1489 : Cond.methodLink "LeaderTermsModel" 395 ⟨"LeaderTermsModel", "isOpenSet", "(II)Z"⟩ ∈ x_tb := x_tm 1604 rfl rfl
set_option maxRecDepth 100000 in
theorem ml_1493 : Cond.methodLink "LeaderTermsModel" 388 ⟨"LeaderTermsModel", "areTight", "(III)Z"⟩ ∈ x_tb := x_tm 1608 rfl rfl
set_option maxRecDepth 100000 in
theorem ml_1497 : Cond.methodLink "LeaderTermsModel" 416 ⟨"LeaderTermsModel", "liveMany", "(I)I"⟩ ∈ x_tb := x_tm 1612 rfl rfl
set_option maxRecDepth 100000 in
theorem ml_1501 : Cond.methodLink "LeaderTermsModel" 419 ⟨"LeaderTermsModel", "proofMany", "(I)I"⟩ ∈ x_tb := x_tm 1616 rfl rfl
set_option maxRecDepth 100000 in
theorem ml_1505 : Cond.methodLink "LeaderTermsModel" 404 ⟨"LeaderTermsModel", "isProof", "(II)Z"⟩ ∈ x_tb := x_tm 1620 rfl rfl
set_option maxRecDepth 100000 in
theorem ml_1509 : Cond.methodLink "LeaderTermsModel" 401 ⟨"LeaderTermsModel", "costLess", "(III)J"⟩ ∈ x_tb := x_tm 1624 rfl rfl
set_option maxRecDepth 100000 in
theorem ml_1513 : Cond.methodLink "LeaderTermsModel" 398 ⟨"LeaderTermsModel", "costOf", "(II)J"⟩ ∈ x_tb := x_tm 1628 rfl rfl
set_option maxRecDepth 100000 in
theorem ml_1529 : Cond.methodLink "LeaderTermsModel" 422 ⟨"LeaderTermsModel", "theProof", "(I)I"⟩ ∈ x_tb := x_tm 1644 rfl rfl
set_option maxRecDepth 100000 in
theorem ml_1533 : Cond.methodLink "LeaderTermsModel" 407 ⟨"LeaderTermsModel", "isAhead", "(III)Z"⟩ ∈ x_tb := x_tm 1648 rfl rfl
set_option maxRecDepth 100000 in
theorem ml_1541 : Cond.methodLink "LeaderTermsModel" 435 ⟨"LeaderTermsModel", "isSheet", "(I)Z"⟩ ∈ x_tb := x_tm 1656 rfl rfl
set_option maxRecDepth 100000 in
theorem ml_1544 : Cond.methodLink "LeaderTermsModel" 438 ⟨"LeaderTermsModel", "weighed", "(II)I"⟩ ∈ x_tb := x_tm 1659 rfl rfl
set_option maxRecDepth 100000 in
theorem ml_1548 : Cond.methodLink "LeaderTermsModel" 432 ⟨"LeaderTermsModel", "areTold", "(II)Z"⟩ ∈ x_tb := x_tm 1663 rfl rfl
set_option maxRecDepth 100000 in
theorem ml_1552 : Cond.methodLink "LeaderTermsModel" 425 ⟨"LeaderTermsModel", "told", "(II)J"⟩ ∈ x_tb := x_tm 1667 rfl rfl
set_option maxRecDepth 100000 in
theorem ml_1558 : Cond.methodLink "LeaderTermsModel" 256 ⟨"LeaderTermsModel", "compare", "(JJJJ)I"⟩ ∈ x_tb := x_tm 1673 rfl rfl
set_option maxRecDepth 100000 in
theorem ml_1561 : Cond.methodLink "LeaderTermsModel" 138 ⟨"java/lang/Math", "floorDiv", "(JJ)J"⟩ ∈ x_tb := x_tm 1676 rfl rfl
set_option maxRecDepth 100000 in
theorem ml_1566 : Cond.methodLink "LeaderTermsModel" 270 ⟨"LeaderTermsModel", "findsBreaks", "(I)V"⟩ ∈ x_tb := x_tm 1681 rfl rfl
set_option maxRecDepth 100000 in
theorem ml_1570 : Cond.methodLink "LeaderTermsModel" 267 ⟨"LeaderTermsModel", "breaksOf", "(I)V"⟩ ∈ x_tb := x_tm 1685 rfl rfl
set_option maxRecDepth 100000 in
theorem ml_1574 : Cond.methodLink "LeaderTermsModel" 263 ⟨"LeaderTermsModel", "breaksBy", "(III)V"⟩ ∈ x_tb := x_tm 1689 rfl rfl
set_option maxRecDepth 100000 in
theorem ml_1578 : Cond.methodLink "LeaderTermsModel" 260 ⟨"LeaderTermsModel", "isBreak", "(JJ)V"⟩ ∈ x_tb := x_tm 1693 rfl rfl
set_option maxRecDepth 100000 in
theorem ml_1591 : Cond.methodLink "LeaderTermsModel" 447 ⟨"LeaderTermsModel", "pieceOf", "(II)J"⟩ ∈ x_tb := x_tm 1706 rfl rfl
set_option maxRecDepth 100000 in
theorem ml_1595 : Cond.methodLink "LeaderTermsModel" 273 ⟨"LeaderTermsModel", "pointAbove", "(I)J"⟩ ∈ x_tb := x_tm 1710 rfl rfl
set_option maxRecDepth 100000 in
theorem ml_1599 : Cond.methodLink "LeaderTermsModel" 276 ⟨"LeaderTermsModel", "pointBelow", "(I)J"⟩ ∈ x_tb := x_tm 1714 rfl rfl
set_option maxRecDepth 100000 in
theorem ml_1603 : Cond.methodLink "LeaderTermsModel" 442 ⟨"LeaderTermsModel", "slopes", "(JJ)V"⟩ ∈ x_tb := x_tm 1718 rfl rfl
set_option maxRecDepth 100000 in
theorem ml_1612 : Cond.methodLink "LeaderTermsModel" 452 ⟨"LeaderTermsModel", "findsBest", "()V"⟩ ∈ x_tb := x_tm 1727 rfl rfl
set_option maxRecDepth 100000 in
theorem ml_1616 : Cond.methodLink "LeaderTermsModel" 455 ⟨"LeaderTermsModel", "toldBest", "(I)J"⟩ ∈ x_tb := x_tm 1731 rfl rfl
set_option maxRecDepth 100000 in
theorem ml_1632 : Cond.methodLink "LeaderTermsModel" 467 ⟨"LeaderTermsModel", "begins", "()V"⟩ ∈ x_tb := x_tm 1747 rfl rfl
set_option maxRecDepth 100000 in
theorem ml_1636 : Cond.methodLink "LeaderTermsModel" 470 ⟨"LeaderTermsModel", "tries", "(I)V"⟩ ∈ x_tb := x_tm 1751 rfl rfl
set_option maxRecDepth 100000 in
theorem ml_1648 : Cond.methodLink "LeaderTermsModel" 473 ⟨"LeaderTermsModel", "copiesRows", "(IZI)V"⟩ ∈ x_tb := x_tm 1763 rfl rfl
set_option maxRecDepth 100000 in
theorem ml_1662 : Cond.methodLink "LeaderTermsModel" 484 ⟨"LeaderTermsModel", "totalCut", "()I"⟩ ∈ x_tb := x_tm 1777 rfl rfl
set_option maxRecDepth 100000 in
theorem ml_1666 : Cond.methodLink "LeaderTermsModel" 491 ⟨"LeaderTermsModel", "isTooMuch", "(JJ)Z"⟩ ∈ x_tb := x_tm 1781 rfl rfl
set_option maxRecDepth 100000 in
theorem ml_1679 : Cond.methodLink "LeaderTermsModel" 500 ⟨"LeaderTermsModel", "isTimesTooMuch", "(JJ)Z"⟩ ∈ x_tb := x_tm 1794 rfl rfl
set_option maxRecDepth 100000 in
theorem ml_1692 : Cond.methodLink "LeaderTermsModel" 505 ⟨"LeaderTermsModel", "isFitting", "(II)Z"⟩ ∈ x_tb := x_tm 1807 rfl rfl
set_option maxRecDepth 100000 in
theorem ml_1705 : Cond.methodLink "LeaderTermsModel" 511 ⟨"LeaderTermsModel", "isPieceRow", "(II)Z"⟩ ∈ x_tb := x_tm 1820 rfl rfl
set_option maxRecDepth 100000 in
theorem ml_1725 : Cond.methodLink "LeaderTermsModel" 514 ⟨"LeaderTermsModel", "whyNot", "(II)I"⟩ ∈ x_tb := x_tm 1840 rfl rfl
set_option maxRecDepth 100000 in
theorem ml_1746 : Cond.methodLink "LeaderTermsModel" 519 ⟨"LeaderTermsModel", "holds", "(I)Z"⟩ ∈ x_tb := x_tm 1861 rfl rfl
set_option maxRecDepth 100000 in
theorem ml_1750 : Cond.methodLink "LeaderTermsModel" 522 ⟨"LeaderTermsModel", "isUnder", "(II)Z"⟩ ∈ x_tb := x_tm 1865 rfl rfl
set_option maxRecDepth 100000 in
theorem ml_1758 : Cond.methodLink "LeaderTermsModel" 532 ⟨"LeaderTermsModel", "copies", "([[I[[I)V"⟩ ∈ x_tb := x_tm 1873 rfl rfl
set_option maxRecDepth 100000 in
theorem ml_1769 : Cond.methodLink "LeaderTermsModel" 536 ⟨"LeaderTermsModel", "held", "()I"⟩ ∈ x_tb := x_tm 1884 rfl rfl
set_option maxRecDepth 100000 in
theorem cpw : Cond.native arraycopyName ∈ x_tb ∧ Cond.static arraycopyName ∈ x_tb ∧ Cond.initialized "java/lang/System" ∈ x_tb := ⟨x_tm 590 rfl rfl, x_tm 589 rfl rfl, x_tm 128 rfl rfl⟩
def x_le : List xV → List xV → Prop
  | [], [] => True
  | a :: r, b :: s => (a = (5, 0) ∨ a = b) ∧ x_le r s
  | _, _ => False
theorem x_le_at : ∀ (r s : List xV), x_le r s → ∀ (j : Nat) (v : xV), r[j]? = some v → v.1 ≠ 5 → s[j]? = some v
  | [], [], _, j, v, h, _ => by simp at h
  | a :: r, b :: s, h, j, v, h1, h5 => by
    match j, h1 with
    | 0, h1 =>
      have e : a = v := by simpa using h1
      rcases h.1 with q | q
      · rw [← e, q] at h5; exact absurd rfl h5
      · rw [← e, q]; rfl
    | j + 1, h1 => exact x_le_at r s h.2 j v (by simpa using h1) h5
  | [], _ :: _, h, _, _, _, _ => h.elim
  | _ :: _, [], h, _, _, _, _ => h.elim
theorem x_le_mem : ∀ (r s : List xV), x_le r s → ∀ v ∈ r, v = (5, 0) ∨ v ∈ s
  | [], [], _, v, h => by simp at h
  | a :: r, b :: s, h, v, hv => by
    rcases List.mem_cons.mp hv with q | q
    · rcases h.1 with w | w
      · exact Or.inl (q.trans w)
      · exact Or.inr (by rw [q, w]; exact List.mem_cons_self)
    · rcases x_le_mem r s h.2 v q with w | w
      · exact Or.inl w
      · exact Or.inr (List.mem_cons_of_mem _ w)
  | [], _ :: _, h, _, _ => h.elim
  | _ :: _, [], h, _, _ => h.elim
theorem i_weak {l : Launch} {E : xE} {z : Nat × Nat × Nat} {y : xMT} {pc : Nat} {ls ls0 st : List xV} {M : xM} {Q : Option xV → xM → Prop} (hw : x_le ls0 ls) (k : x_Ev l E z y pc ls0 st M Q) : x_Ev l E z y pc ls st M Q := by
  intro p e R s m args below meth c H locs cells slots lr hM hC hf hl hc hs hN hlo hL hol hos
  refine k p e R s m args below meth c H locs cells slots lr hM hC hf hl hc hs hN hlo (x_LR.of hL fun j v h1 h2 => (x_asc_mem E ls 0 _).mpr ⟨j, v, x_le_at _ _ hw j v h1 h2, h2, by simp⟩) (fun v hv => ?_) hos
  rcases x_le_mem _ _ hw v hv with q | q
  · rw [q]; trivial
  · exact hol v q
