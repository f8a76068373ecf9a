/-! ===== links and methods, by name; printed by wip/whole/gen_vc.py ===== -/
theorem lk_m0_3 {sc : Nat × (Int → Int)} : mm_lm (mt_P sc) 0 3 = some 0 := rfl
theorem lk_f0_9 {sc : Nat × (Int → Int)} : mm_lf (mt_P sc) 0 9 = some (0, 0) := rfl
theorem lk_f0_15 {sc : Nat × (Int → Int)} : mm_lf (mt_P sc) 0 15 = some (0, 1) := rfl
theorem lk_f0_19 {sc : Nat × (Int → Int)} : mm_lf (mt_P sc) 0 19 = some (0, 2) := rfl
theorem lk_f0_22 {sc : Nat × (Int → Int)} : mm_lf (mt_P sc) 0 22 = some (0, 3) := rfl
theorem lk_f0_25 {sc : Nat × (Int → Int)} : mm_lf (mt_P sc) 0 25 = some (0, 4) := rfl
theorem lk_f0_28 {sc : Nat × (Int → Int)} : mm_lf (mt_P sc) 0 28 = some (0, 5) := rfl
theorem lk_m0_31 {sc : Nat × (Int → Int)} : mm_lm (mt_P sc) 0 31 = some 81 := rfl
theorem lk_m0_35 {sc : Nat × (Int → Int)} : mm_lm (mt_P sc) 0 35 = some 51 := rfl
theorem lk_m0_39 {sc : Nat × (Int → Int)} : mm_lm (mt_P sc) 0 39 = some 50 := rfl
theorem lk_m0_42 {sc : Nat × (Int → Int)} : mm_lm (mt_P sc) 0 42 = some 17 := rfl
theorem lk_m0_48 {sc : Nat × (Int → Int)} : mm_lm (mt_P sc) 0 48 = some 79 := rfl
theorem lk_m1_1 {sc : Nat × (Int → Int)} : mm_lm (mt_P sc) 1 1 = some 0 := rfl
theorem lk_f1_7 {sc : Nat × (Int → Int)} : mm_lf (mt_P sc) 1 7 = some (1, 0) := rfl
theorem lk_f1_13 {sc : Nat × (Int → Int)} : mm_lf (mt_P sc) 1 13 = some (1, 1) := rfl
theorem lk_f1_16 {sc : Nat × (Int → Int)} : mm_lf (mt_P sc) 1 16 = some (1, 2) := rfl
theorem lk_f1_19 {sc : Nat × (Int → Int)} : mm_lf (mt_P sc) 1 19 = some (1, 3) := rfl
theorem lk_f1_22 {sc : Nat × (Int → Int)} : mm_lf (mt_P sc) 1 22 = some (1, 4) := rfl
theorem lk_m1_25 {sc : Nat × (Int → Int)} : mm_lm (mt_P sc) 1 25 = some 174 := rfl
theorem lk_m2_3 {sc : Nat × (Int → Int)} : mm_lm (mt_P sc) 2 3 = some 0 := rfl
theorem lk_f2_12 {sc : Nat × (Int → Int)} : mm_lf (mt_P sc) 2 12 = some (2, 0) := rfl
theorem lk_f2_21 {sc : Nat × (Int → Int)} : mm_lf (mt_P sc) 2 21 = some (2, 1) := rfl
theorem lk_f2_25 {sc : Nat × (Int → Int)} : mm_lf (mt_P sc) 2 25 = some (2, 2) := rfl
theorem lk_f2_29 {sc : Nat × (Int → Int)} : mm_lf (mt_P sc) 2 29 = some (0, 0) := rfl
theorem lk_m2_33 {sc : Nat × (Int → Int)} : mm_lm (mt_P sc) 2 33 = some 23 := rfl
theorem lk_f2_37 {sc : Nat × (Int → Int)} : mm_lf (mt_P sc) 2 37 = some (0, 2) := rfl
theorem lk_m2_41 {sc : Nat × (Int → Int)} : mm_lm (mt_P sc) 2 41 = some 24 := rfl
theorem lk_f2_45 {sc : Nat × (Int → Int)} : mm_lf (mt_P sc) 2 45 = some (0, 1) := rfl
theorem lk_m2_48 {sc : Nat × (Int → Int)} : mm_lm (mt_P sc) 2 48 = some 26 := rfl
theorem lk_m2_52 {sc : Nat × (Int → Int)} : mm_lm (mt_P sc) 2 52 = some 28 := rfl
theorem lk_f2_56 {sc : Nat × (Int → Int)} : mm_lf (mt_P sc) 2 56 = some (0, 3) := rfl
theorem lk_m2_59 {sc : Nat × (Int → Int)} : mm_lm (mt_P sc) 2 59 = some 22 := rfl
theorem lk_f2_63 {sc : Nat × (Int → Int)} : mm_lf (mt_P sc) 2 63 = some (0, 4) := rfl
theorem lk_f2_66 {sc : Nat × (Int → Int)} : mm_lf (mt_P sc) 2 66 = some (0, 5) := rfl
theorem lk_m2_69 {sc : Nat × (Int → Int)} : mm_lm (mt_P sc) 2 69 = some 25 := rfl
theorem lk_m3_3 {sc : Nat × (Int → Int)} : mm_lm (mt_P sc) 3 3 = some 0 := rfl
theorem lk_f3_9 {sc : Nat × (Int → Int)} : mm_lf (mt_P sc) 3 9 = some (3, 0) := rfl
theorem lk_f3_15 {sc : Nat × (Int → Int)} : mm_lf (mt_P sc) 3 15 = some (3, 1) := rfl
theorem lk_f3_18 {sc : Nat × (Int → Int)} : mm_lf (mt_P sc) 3 18 = some (3, 2) := rfl
theorem lk_f3_22 {sc : Nat × (Int → Int)} : mm_lf (mt_P sc) 3 22 = some (3, 3) := rfl
theorem lk_f3_25 {sc : Nat × (Int → Int)} : mm_lf (mt_P sc) 3 25 = some (3, 4) := rfl
theorem lk_m3_28 {sc : Nat × (Int → Int)} : mm_lm (mt_P sc) 3 28 = some 79 := rfl
theorem lk_m3_34 {sc : Nat × (Int → Int)} : mm_lm (mt_P sc) 3 34 = some 115 := rfl
theorem lk_m3_40 {sc : Nat × (Int → Int)} : mm_lm (mt_P sc) 3 40 = some 124 := rfl
theorem lk_m3_44 {sc : Nat × (Int → Int)} : mm_lm (mt_P sc) 3 44 = some 116 := rfl
theorem lk_f3_48 {sc : Nat × (Int → Int)} : mm_lf (mt_P sc) 3 48 = some (0, 5) := rfl
theorem lk_f3_51 {sc : Nat × (Int → Int)} : mm_lf (mt_P sc) 3 51 = some (0, 1) := rfl
theorem lk_m3_54 {sc : Nat × (Int → Int)} : mm_lm (mt_P sc) 3 54 = some 117 := rfl
theorem lk_m3_58 {sc : Nat × (Int → Int)} : mm_lm (mt_P sc) 3 58 = some 118 := rfl
theorem lk_m3_62 {sc : Nat × (Int → Int)} : mm_lm (mt_P sc) 3 62 = some 122 := rfl
theorem lk_m3_66 {sc : Nat × (Int → Int)} : mm_lm (mt_P sc) 3 66 = some 123 := rfl
theorem lk_m3_69 {sc : Nat × (Int → Int)} : mm_lm (mt_P sc) 3 69 = some 119 := rfl
theorem lk_m3_72 {sc : Nat × (Int → Int)} : mm_lm (mt_P sc) 3 72 = some 82 := rfl
theorem lk_f3_76 {sc : Nat × (Int → Int)} : mm_lf (mt_P sc) 3 76 = some (0, 2) := rfl
theorem lk_m3_79 {sc : Nat × (Int → Int)} : mm_lm (mt_P sc) 3 79 = some 120 := rfl
theorem lk_m3_83 {sc : Nat × (Int → Int)} : mm_lm (mt_P sc) 3 83 = some 121 := rfl
theorem lk_f3_86 {sc : Nat × (Int → Int)} : mm_lf (mt_P sc) 3 86 = some (0, 4) := rfl
theorem lk_m3_89 {sc : Nat × (Int → Int)} : mm_lm (mt_P sc) 3 89 = some 96 := rfl
theorem lk_m3_92 {sc : Nat × (Int → Int)} : mm_lm (mt_P sc) 3 92 = some 81 := rfl
theorem lk_m3_95 {sc : Nat × (Int → Int)} : mm_lm (mt_P sc) 3 95 = some 50 := rfl
theorem lk_m3_98 {sc : Nat × (Int → Int)} : mm_lm (mt_P sc) 3 98 = some 51 := rfl
theorem lk_m3_101 {sc : Nat × (Int → Int)} : mm_lm (mt_P sc) 3 101 = some 127 := rfl
theorem lk_m3_104 {sc : Nat × (Int → Int)} : mm_lm (mt_P sc) 3 104 = some 128 := rfl
theorem lk_m3_107 {sc : Nat × (Int → Int)} : mm_lm (mt_P sc) 3 107 = some 129 := rfl
theorem lk_m3_112 {sc : Nat × (Int → Int)} : mm_lm (mt_P sc) 3 112 = some 130 := rfl
theorem lk_m3_117 {sc : Nat × (Int → Int)} : mm_lm (mt_P sc) 3 117 = some 131 := rfl
theorem lk_m3_120 {sc : Nat × (Int → Int)} : mm_lm (mt_P sc) 3 120 = some 138 := rfl
theorem lk_m3_123 {sc : Nat × (Int → Int)} : mm_lm (mt_P sc) 3 123 = some 67 := rfl
theorem lk_m3_128 {sc : Nat × (Int → Int)} : mm_lm (mt_P sc) 3 128 = some 14 := rfl
theorem lk_m3_131 {sc : Nat × (Int → Int)} : mm_lm (mt_P sc) 3 131 = some 13 := rfl
theorem lk_m3_134 {sc : Nat × (Int → Int)} : mm_lm (mt_P sc) 3 134 = some 17 := rfl
theorem lk_m4_3 {sc : Nat × (Int → Int)} : mm_lm (mt_P sc) 4 3 = some 0 := rfl
theorem lk_f4_9 {sc : Nat × (Int → Int)} : mm_lf (mt_P sc) 4 9 = some (4, 0) := rfl
theorem lk_f4_15 {sc : Nat × (Int → Int)} : mm_lf (mt_P sc) 4 15 = some (4, 1) := rfl
theorem lk_m4_19 {sc : Nat × (Int → Int)} : mm_lm (mt_P sc) 4 19 = some 79 := rfl
theorem lk_f4_25 {sc : Nat × (Int → Int)} : mm_lf (mt_P sc) 4 25 = some (0, 0) := rfl
theorem lk_m4_28 {sc : Nat × (Int → Int)} : mm_lm (mt_P sc) 4 28 = some 119 := rfl
theorem lk_m4_32 {sc : Nat × (Int → Int)} : mm_lm (mt_P sc) 4 32 = some 135 := rfl
theorem lk_m4_36 {sc : Nat × (Int → Int)} : mm_lm (mt_P sc) 4 36 = some 50 := rfl
theorem lk_m4_39 {sc : Nat × (Int → Int)} : mm_lm (mt_P sc) 4 39 = some 51 := rfl
theorem lk_f4_42 {sc : Nat × (Int → Int)} : mm_lf (mt_P sc) 4 42 = some (0, 4) := rfl
theorem lk_f4_45 {sc : Nat × (Int → Int)} : mm_lf (mt_P sc) 4 45 = some (0, 5) := rfl
theorem lk_m4_48 {sc : Nat × (Int → Int)} : mm_lm (mt_P sc) 4 48 = some 134 := rfl
theorem lk_m4_52 {sc : Nat × (Int → Int)} : mm_lm (mt_P sc) 4 52 = some 133 := rfl
theorem lk_m4_55 {sc : Nat × (Int → Int)} : mm_lm (mt_P sc) 4 55 = some 13 := rfl
theorem lk_m4_61 {sc : Nat × (Int → Int)} : mm_lm (mt_P sc) 4 61 = some 14 := rfl
theorem lk_m5_3 {sc : Nat × (Int → Int)} : mm_lm (mt_P sc) 5 3 = some 0 := rfl
theorem lk_f5_11 {sc : Nat × (Int → Int)} : mm_lf (mt_P sc) 5 11 = some (5, 0) := rfl
theorem lk_m5_15 {sc : Nat × (Int → Int)} : mm_lm (mt_P sc) 5 15 = some 11 := rfl
theorem lk_m5_21 {sc : Nat × (Int → Int)} : mm_lm (mt_P sc) 5 21 = some 16 := rfl
theorem lk_m5_25 {sc : Nat × (Int → Int)} : mm_lm (mt_P sc) 5 25 = some 13 := rfl
theorem lk_m5_31 {sc : Nat × (Int → Int)} : mm_lm (mt_P sc) 5 31 = some 14 := rfl
theorem lk_m5_34 {sc : Nat × (Int → Int)} : mm_lm (mt_P sc) 5 34 = some 15 := rfl
theorem lk_m5_40 {sc : Nat × (Int → Int)} : mm_lm (mt_P sc) 5 40 = some 54 := rfl
theorem lk_m5_44 {sc : Nat × (Int → Int)} : mm_lm (mt_P sc) 5 44 = some 22 := rfl
theorem lk_m5_48 {sc : Nat × (Int → Int)} : mm_lm (mt_P sc) 5 48 = some 27 := rfl
theorem lk_m5_54 {sc : Nat × (Int → Int)} : mm_lm (mt_P sc) 5 54 = some 21 := rfl
theorem lk_m5_58 {sc : Nat × (Int → Int)} : mm_lm (mt_P sc) 5 58 = some 20 := rfl
theorem lk_m6_3 {sc : Nat × (Int → Int)} : mm_lm (mt_P sc) 6 3 = some 0 := rfl
theorem lk_f6_11 {sc : Nat × (Int → Int)} : mm_lf (mt_P sc) 6 11 = some (6, 0) := rfl
theorem lk_f6_18 {sc : Nat × (Int → Int)} : mm_lf (mt_P sc) 6 18 = some (6, 1) := rfl
theorem lk_f6_25 {sc : Nat × (Int → Int)} : mm_lf (mt_P sc) 6 25 = some (6, 2) := rfl
theorem lk_f6_29 {sc : Nat × (Int → Int)} : mm_lf (mt_P sc) 6 29 = some (6, 3) := rfl
theorem lk_f6_32 {sc : Nat × (Int → Int)} : mm_lf (mt_P sc) 6 32 = some (6, 4) := rfl
theorem lk_f6_38 {sc : Nat × (Int → Int)} : mm_lf (mt_P sc) 6 38 = some (6, 5) := rfl
theorem lk_f6_42 {sc : Nat × (Int → Int)} : mm_lf (mt_P sc) 6 42 = some (6, 6) := rfl
theorem lk_f6_49 {sc : Nat × (Int → Int)} : mm_lf (mt_P sc) 6 49 = some (6, 7) := rfl
theorem lk_f6_56 {sc : Nat × (Int → Int)} : mm_lf (mt_P sc) 6 56 = some (6, 8) := rfl
theorem lk_m6_61 {sc : Nat × (Int → Int)} : mm_lm (mt_P sc) 6 61 = some 9 := rfl
theorem lk_m6_65 {sc : Nat × (Int → Int)} : mm_lm (mt_P sc) 6 65 = some 10 := rfl
theorem lk_m6_69 {sc : Nat × (Int → Int)} : mm_lm (mt_P sc) 6 69 = some 12 := rfl
theorem lk_m6_72 {sc : Nat × (Int → Int)} : mm_lm (mt_P sc) 6 72 = some 17 := rfl
theorem lk_m6_76 {sc : Nat × (Int → Int)} : mm_lm (mt_P sc) 6 76 = some 18 := rfl
theorem lk_m6_79 {sc : Nat × (Int → Int)} : mm_lm (mt_P sc) 6 79 = some 29 := rfl
theorem lk_m6_83 {sc : Nat × (Int → Int)} : mm_lm (mt_P sc) 6 83 = some 30 := rfl
theorem lk_m6_87 {sc : Nat × (Int → Int)} : mm_lm (mt_P sc) 6 87 = some 42 := rfl
theorem lk_m6_91 {sc : Nat × (Int → Int)} : mm_lm (mt_P sc) 6 91 = some 48 := rfl
theorem lk_f6_95 {sc : Nat × (Int → Int)} : mm_lf (mt_P sc) 6 95 = some (2, 2) := rfl
theorem lk_m6_99 {sc : Nat × (Int → Int)} : mm_lm (mt_P sc) 6 99 = some 22 := rfl
theorem lk_m6_102 {sc : Nat × (Int → Int)} : mm_lm (mt_P sc) 6 102 = some 13 := rfl
theorem lk_m6_108 {sc : Nat × (Int → Int)} : mm_lm (mt_P sc) 6 108 = some 53 := rfl
theorem lk_m6_112 {sc : Nat × (Int → Int)} : mm_lm (mt_P sc) 6 112 = some 55 := rfl
theorem lk_m6_115 {sc : Nat × (Int → Int)} : mm_lm (mt_P sc) 6 115 = some 67 := rfl
theorem lk_f6_118 {sc : Nat × (Int → Int)} : mm_lf (mt_P sc) 6 118 = some (0, 0) := rfl
theorem lk_m6_121 {sc : Nat × (Int → Int)} : mm_lm (mt_P sc) 6 121 = some 52 := rfl
theorem lk_f6_125 {sc : Nat × (Int → Int)} : mm_lf (mt_P sc) 6 125 = some (0, 1) := rfl
theorem lk_f6_129 {sc : Nat × (Int → Int)} : mm_lf (mt_P sc) 6 129 = some (0, 2) := rfl
theorem lk_m6_132 {sc : Nat × (Int → Int)} : mm_lm (mt_P sc) 6 132 = some 14 := rfl
theorem lk_m6_135 {sc : Nat × (Int → Int)} : mm_lm (mt_P sc) 6 135 = some 77 := rfl
theorem lk_m6_139 {sc : Nat × (Int → Int)} : mm_lm (mt_P sc) 6 139 = some 78 := rfl
theorem lk_m6_142 {sc : Nat × (Int → Int)} : mm_lm (mt_P sc) 6 142 = some 84 := rfl
theorem lk_m6_145 {sc : Nat × (Int → Int)} : mm_lm (mt_P sc) 6 145 = some 90 := rfl
theorem lk_m6_149 {sc : Nat × (Int → Int)} : mm_lm (mt_P sc) 6 149 = some 97 := rfl
theorem lk_m6_153 {sc : Nat × (Int → Int)} : mm_lm (mt_P sc) 6 153 = some 51 := rfl
theorem lk_m6_156 {sc : Nat × (Int → Int)} : mm_lm (mt_P sc) 6 156 = some 50 := rfl
theorem lk_f6_159 {sc : Nat × (Int → Int)} : mm_lf (mt_P sc) 6 159 = some (0, 4) := rfl
theorem lk_f6_162 {sc : Nat × (Int → Int)} : mm_lf (mt_P sc) 6 162 = some (0, 5) := rfl
theorem lk_m6_165 {sc : Nat × (Int → Int)} : mm_lm (mt_P sc) 6 165 = some 49 := rfl
theorem lk_m6_168 {sc : Nat × (Int → Int)} : mm_lm (mt_P sc) 6 168 = some 82 := rfl
theorem lk_m6_171 {sc : Nat × (Int → Int)} : mm_lm (mt_P sc) 6 171 = some 126 := rfl
theorem lk_m6_175 {sc : Nat × (Int → Int)} : mm_lm (mt_P sc) 6 175 = some 132 := rfl
theorem lk_f6_178 {sc : Nat × (Int → Int)} : mm_lf (mt_P sc) 6 178 = some (3, 0) := rfl
theorem lk_f6_180 {sc : Nat × (Int → Int)} : mm_lf (mt_P sc) 6 180 = some (3, 1) := rfl
theorem lk_m6_183 {sc : Nat × (Int → Int)} : mm_lm (mt_P sc) 6 183 = some 137 := rfl
theorem lk_f6_187 {sc : Nat × (Int → Int)} : mm_lf (mt_P sc) 6 187 = some (4, 0) := rfl
theorem lk_m6_189 {sc : Nat × (Int → Int)} : mm_lm (mt_P sc) 6 189 = some 139 := rfl
theorem lk_m6_192 {sc : Nat × (Int → Int)} : mm_lm (mt_P sc) 6 192 = some 156 := rfl
theorem lk_m6_195 {sc : Nat × (Int → Int)} : mm_lm (mt_P sc) 6 195 = some 131 := rfl
theorem lk_m6_198 {sc : Nat × (Int → Int)} : mm_lm (mt_P sc) 6 198 = some 138 := rfl
theorem lk_f6_201 {sc : Nat × (Int → Int)} : mm_lf (mt_P sc) 6 201 = some (3, 3) := rfl
theorem lk_m6_203 {sc : Nat × (Int → Int)} : mm_lm (mt_P sc) 6 203 = some 128 := rfl
theorem lk_m6_206 {sc : Nat × (Int → Int)} : mm_lm (mt_P sc) 6 206 = some 130 := rfl
theorem lk_m6_209 {sc : Nat × (Int → Int)} : mm_lm (mt_P sc) 6 209 = some 163 := rfl
theorem lk_f6_213 {sc : Nat × (Int → Int)} : mm_lf (mt_P sc) 6 213 = some (4, 1) := rfl
theorem lk_m6_216 {sc : Nat × (Int → Int)} : mm_lm (mt_P sc) 6 216 = some 177 := rfl
theorem lk_f6_219 {sc : Nat × (Int → Int)} : mm_lf (mt_P sc) 6 219 = some (1, 0) := rfl
theorem lk_f6_221 {sc : Nat × (Int → Int)} : mm_lf (mt_P sc) 6 221 = some (1, 1) := rfl
theorem lk_f6_223 {sc : Nat × (Int → Int)} : mm_lf (mt_P sc) 6 223 = some (1, 2) := rfl
theorem lk_f6_225 {sc : Nat × (Int → Int)} : mm_lf (mt_P sc) 6 225 = some (1, 3) := rfl
theorem lk_f6_227 {sc : Nat × (Int → Int)} : mm_lf (mt_P sc) 6 227 = some (1, 4) := rfl
theorem lk_m6_229 {sc : Nat × (Int → Int)} : mm_lm (mt_P sc) 6 229 = some 23 := rfl
theorem lk_m6_233 {sc : Nat × (Int → Int)} : mm_lm (mt_P sc) 6 233 = some 186 := rfl
theorem lk_m6_237 {sc : Nat × (Int → Int)} : mm_lm (mt_P sc) 6 237 = some 187 := rfl
theorem lk_m6_241 {sc : Nat × (Int → Int)} : mm_lm (mt_P sc) 6 241 = some 192 := rfl
theorem lk_m6_244 {sc : Nat × (Int → Int)} : mm_lm (mt_P sc) 6 244 = some 193 := rfl
theorem lk_f6_248 {sc : Nat × (Int → Int)} : mm_lf (mt_P sc) 6 248 = some (2, 0) := rfl
theorem lk_m6_252 {sc : Nat × (Int → Int)} : mm_lm (mt_P sc) 6 252 = some 194 := rfl
theorem lk_m6_256 {sc : Nat × (Int → Int)} : mm_lm (mt_P sc) 6 256 = some 195 := rfl
theorem lk_m6_265 {sc : Nat × (Int → Int)} : mm_lm (mt_P sc) 6 265 = some 125 := rfl
theorem lk_m6_268 {sc : Nat × (Int → Int)} : mm_lm (mt_P sc) 6 268 = some 136 := rfl
theorem lk_m6_271 {sc : Nat × (Int → Int)} : mm_lm (mt_P sc) 6 271 = some 76 := rfl
theorem lk_m6_275 {sc : Nat × (Int → Int)} : mm_lm (mt_P sc) 6 275 = some 80 := rfl
theorem lk_m6_278 {sc : Nat × (Int → Int)} : mm_lm (mt_P sc) 6 278 = some 83 := rfl
theorem lk_m6_281 {sc : Nat × (Int → Int)} : mm_lm (mt_P sc) 6 281 = some 96 := rfl
theorem lk_m6_284 {sc : Nat × (Int → Int)} : mm_lm (mt_P sc) 6 284 = some 173 := rfl
theorem lk_m6_287 {sc : Nat × (Int → Int)} : mm_lm (mt_P sc) 6 287 = some 176 := rfl
theorem lk_m6_290 {sc : Nat × (Int → Int)} : mm_lm (mt_P sc) 6 290 = some 25 := rfl
theorem lk_m6_293 {sc : Nat × (Int → Int)} : mm_lm (mt_P sc) 6 293 = some 175 := rfl
theorem lk_m7_1 {sc : Nat × (Int → Int)} : mm_lm (mt_P sc) 7 1 = some 0 := rfl
theorem lk_f7_7 {sc : Nat × (Int → Int)} : mm_lf (mt_P sc) 7 7 = some (7, 1) := rfl
theorem lk_f7_13 {sc : Nat × (Int → Int)} : mm_lf (mt_P sc) 7 13 = some (7, 2) := rfl
theorem lk_f7_16 {sc : Nat × (Int → Int)} : mm_lf (mt_P sc) 7 16 = some (7, 3) := rfl
theorem lk_f7_19 {sc : Nat × (Int → Int)} : mm_lf (mt_P sc) 7 19 = some (7, 4) := rfl
theorem lk_f7_22 {sc : Nat × (Int → Int)} : mm_lf (mt_P sc) 7 22 = some (7, 5) := rfl
theorem lk_f7_25 {sc : Nat × (Int → Int)} : mm_lf (mt_P sc) 7 25 = some (7, 6) := rfl
theorem lk_f7_28 {sc : Nat × (Int → Int)} : mm_lf (mt_P sc) 7 28 = some (7, 7) := rfl
theorem lk_f7_31 {sc : Nat × (Int → Int)} : mm_lf (mt_P sc) 7 31 = some (7, 8) := rfl
theorem lk_f7_34 {sc : Nat × (Int → Int)} : mm_lf (mt_P sc) 7 34 = some (7, 9) := rfl
theorem lk_f7_37 {sc : Nat × (Int → Int)} : mm_lf (mt_P sc) 7 37 = some (7, 10) := rfl
theorem lk_f7_40 {sc : Nat × (Int → Int)} : mm_lf (mt_P sc) 7 40 = some (7, 12) := rfl
theorem lk_f7_43 {sc : Nat × (Int → Int)} : mm_lf (mt_P sc) 7 43 = some (7, 13) := rfl
theorem lk_f7_46 {sc : Nat × (Int → Int)} : mm_lf (mt_P sc) 7 46 = some (7, 15) := rfl
theorem lk_f7_49 {sc : Nat × (Int → Int)} : mm_lf (mt_P sc) 7 49 = some (7, 16) := rfl
theorem lk_f7_52 {sc : Nat × (Int → Int)} : mm_lf (mt_P sc) 7 52 = some (7, 18) := rfl
theorem lk_f7_55 {sc : Nat × (Int → Int)} : mm_lf (mt_P sc) 7 55 = some (7, 21) := rfl
theorem lk_f7_58 {sc : Nat × (Int → Int)} : mm_lf (mt_P sc) 7 58 = some (7, 22) := rfl
theorem lk_f7_62 {sc : Nat × (Int → Int)} : mm_lf (mt_P sc) 7 62 = some (7, 25) := rfl
theorem lk_f7_66 {sc : Nat × (Int → Int)} : mm_lf (mt_P sc) 7 66 = some (7, 26) := rfl
theorem lk_f7_69 {sc : Nat × (Int → Int)} : mm_lf (mt_P sc) 7 69 = some (7, 27) := rfl
theorem lk_f7_72 {sc : Nat × (Int → Int)} : mm_lf (mt_P sc) 7 72 = some (7, 28) := rfl
theorem lk_f7_76 {sc : Nat × (Int → Int)} : mm_lf (mt_P sc) 7 76 = some (7, 30) := rfl
theorem lk_f7_80 {sc : Nat × (Int → Int)} : mm_lf (mt_P sc) 7 80 = some (7, 39) := rfl
theorem lk_f7_83 {sc : Nat × (Int → Int)} : mm_lf (mt_P sc) 7 83 = some (7, 40) := rfl
theorem lk_f7_86 {sc : Nat × (Int → Int)} : mm_lf (mt_P sc) 7 86 = some (7, 41) := rfl
theorem lk_f7_89 {sc : Nat × (Int → Int)} : mm_lf (mt_P sc) 7 89 = some (7, 0) := rfl
theorem lk_f7_93 {sc : Nat × (Int → Int)} : mm_lf (mt_P sc) 7 93 = some (7, 20) := rfl
theorem lk_f7_97 {sc : Nat × (Int → Int)} : mm_lf (mt_P sc) 7 97 = some (7, 19) := rfl
theorem lk_f7_100 {sc : Nat × (Int → Int)} : mm_lf (mt_P sc) 7 100 = some (7, 17) := rfl
theorem lk_m7_103 {sc : Nat × (Int → Int)} : mm_lm (mt_P sc) 7 103 = some 37 := rfl
theorem lk_m7_107 {sc : Nat × (Int → Int)} : mm_lm (mt_P sc) 7 107 = some 45 := rfl
theorem lk_m7_111 {sc : Nat × (Int → Int)} : mm_lm (mt_P sc) 7 111 = some 60 := rfl
theorem lk_f7_115 {sc : Nat × (Int → Int)} : mm_lf (mt_P sc) 7 115 = some (7, 11) := rfl
theorem lk_f7_118 {sc : Nat × (Int → Int)} : mm_lf (mt_P sc) 7 118 = some (7, 14) := rfl
theorem lk_m7_121 {sc : Nat × (Int → Int)} : mm_lm (mt_P sc) 7 121 = some 63 := rfl
theorem lk_m7_124 {sc : Nat × (Int → Int)} : mm_lm (mt_P sc) 7 124 = some 64 := rfl
theorem lk_m7_127 {sc : Nat × (Int → Int)} : mm_lm (mt_P sc) 7 127 = some 36 := rfl
theorem lk_m7_131 {sc : Nat × (Int → Int)} : mm_lm (mt_P sc) 7 131 = some 34 := rfl
theorem lk_m7_135 {sc : Nat × (Int → Int)} : mm_lm (mt_P sc) 7 135 = some 33 := rfl
theorem lk_m7_139 {sc : Nat × (Int → Int)} : mm_lm (mt_P sc) 7 139 = some 35 := rfl
theorem lk_m7_142 {sc : Nat × (Int → Int)} : mm_lm (mt_P sc) 7 142 = some 38 := rfl
theorem lk_m7_145 {sc : Nat × (Int → Int)} : mm_lm (mt_P sc) 7 145 = some 39 := rfl
theorem lk_m7_148 {sc : Nat × (Int → Int)} : mm_lm (mt_P sc) 7 148 = some 46 := rfl
theorem lk_m7_151 {sc : Nat × (Int → Int)} : mm_lm (mt_P sc) 7 151 = some 58 := rfl
theorem lk_m7_155 {sc : Nat × (Int → Int)} : mm_lm (mt_P sc) 7 155 = some 59 := rfl
theorem lk_m7_158 {sc : Nat × (Int → Int)} : mm_lm (mt_P sc) 7 158 = some 61 := rfl
theorem lk_m7_161 {sc : Nat × (Int → Int)} : mm_lm (mt_P sc) 7 161 = some 62 := rfl
theorem lk_m7_164 {sc : Nat × (Int → Int)} : mm_lm (mt_P sc) 7 164 = some 65 := rfl
theorem lk_m7_167 {sc : Nat × (Int → Int)} : mm_lm (mt_P sc) 7 167 = some 70 := rfl
theorem lk_m7_171 {sc : Nat × (Int → Int)} : mm_lm (mt_P sc) 7 171 = some 74 := rfl
theorem lk_m7_174 {sc : Nat × (Int → Int)} : mm_lm (mt_P sc) 7 174 = some 87 := rfl
theorem lk_m7_177 {sc : Nat × (Int → Int)} : mm_lm (mt_P sc) 7 177 = some 88 := rfl
theorem lk_m7_180 {sc : Nat × (Int → Int)} : mm_lm (mt_P sc) 7 180 = some 93 := rfl
theorem lk_m7_184 {sc : Nat × (Int → Int)} : mm_lm (mt_P sc) 7 184 = some 94 := rfl
theorem lk_m7_187 {sc : Nat × (Int → Int)} : mm_lm (mt_P sc) 7 187 = some 100 := rfl
theorem lk_m7_191 {sc : Nat × (Int → Int)} : mm_lm (mt_P sc) 7 191 = some 113 := rfl
theorem lk_m7_195 {sc : Nat × (Int → Int)} : mm_lm (mt_P sc) 7 195 = some 142 := rfl
theorem lk_f7_199 {sc : Nat × (Int → Int)} : mm_lf (mt_P sc) 7 199 = some (7, 23) := rfl
theorem lk_f7_202 {sc : Nat × (Int → Int)} : mm_lf (mt_P sc) 7 202 = some (7, 24) := rfl
theorem lk_m7_205 {sc : Nat × (Int → Int)} : mm_lm (mt_P sc) 7 205 = some 146 := rfl
theorem lk_f7_208 {sc : Nat × (Int → Int)} : mm_lf (mt_P sc) 7 208 = some (7, 33) := rfl
theorem lk_f7_211 {sc : Nat × (Int → Int)} : mm_lf (mt_P sc) 7 211 = some (7, 31) := rfl
theorem lk_f7_214 {sc : Nat × (Int → Int)} : mm_lf (mt_P sc) 7 214 = some (7, 32) := rfl
theorem lk_m7_217 {sc : Nat × (Int → Int)} : mm_lm (mt_P sc) 7 217 = some 149 := rfl
theorem lk_m7_220 {sc : Nat × (Int → Int)} : mm_lm (mt_P sc) 7 220 = some 145 := rfl
theorem lk_f7_223 {sc : Nat × (Int → Int)} : mm_lf (mt_P sc) 7 223 = some (7, 29) := rfl
theorem lk_m7_226 {sc : Nat × (Int → Int)} : mm_lm (mt_P sc) 7 226 = some 150 := rfl
theorem lk_m7_229 {sc : Nat × (Int → Int)} : mm_lm (mt_P sc) 7 229 = some 152 := rfl
theorem lk_m7_233 {sc : Nat × (Int → Int)} : mm_lm (mt_P sc) 7 233 = some 151 := rfl
theorem lk_f7_236 {sc : Nat × (Int → Int)} : mm_lf (mt_P sc) 7 236 = some (7, 34) := rfl
theorem lk_f7_239 {sc : Nat × (Int → Int)} : mm_lf (mt_P sc) 7 239 = some (7, 35) := rfl
theorem lk_f7_242 {sc : Nat × (Int → Int)} : mm_lf (mt_P sc) 7 242 = some (7, 36) := rfl
theorem lk_f7_246 {sc : Nat × (Int → Int)} : mm_lf (mt_P sc) 7 246 = some (7, 37) := rfl
theorem lk_f7_249 {sc : Nat × (Int → Int)} : mm_lf (mt_P sc) 7 249 = some (7, 38) := rfl
theorem lk_m7_252 {sc : Nat × (Int → Int)} : mm_lm (mt_P sc) 7 252 = some 147 := rfl
theorem lk_m7_255 {sc : Nat × (Int → Int)} : mm_lm (mt_P sc) 7 255 = some 143 := rfl
theorem lk_m7_258 {sc : Nat × (Int → Int)} : mm_lm (mt_P sc) 7 258 = some 144 := rfl
theorem lk_m7_261 {sc : Nat × (Int → Int)} : mm_lm (mt_P sc) 7 261 = some 148 := rfl
theorem lk_m7_264 {sc : Nat × (Int → Int)} : mm_lm (mt_P sc) 7 264 = some 153 := rfl
theorem lk_m7_267 {sc : Nat × (Int → Int)} : mm_lm (mt_P sc) 7 267 = some 154 := rfl
theorem lk_m7_272 {sc : Nat × (Int → Int)} : mm_lm (mt_P sc) 7 272 = some 180 := rfl
theorem lk_f7_276 {sc : Nat × (Int → Int)} : mm_lf (mt_P sc) 7 276 = some (7, 43) := rfl
theorem lk_f7_279 {sc : Nat × (Int → Int)} : mm_lf (mt_P sc) 7 279 = some (7, 42) := rfl
theorem lk_f7_282 {sc : Nat × (Int → Int)} : mm_lf (mt_P sc) 7 282 = some (7, 44) := rfl
theorem lk_f7_285 {sc : Nat × (Int → Int)} : mm_lf (mt_P sc) 7 285 = some (7, 46) := rfl
theorem lk_f7_288 {sc : Nat × (Int → Int)} : mm_lf (mt_P sc) 7 288 = some (7, 45) := rfl
theorem lk_m7_291 {sc : Nat × (Int → Int)} : mm_lm (mt_P sc) 7 291 = some 181 := rfl
theorem lk_m7_294 {sc : Nat × (Int → Int)} : mm_lm (mt_P sc) 7 294 = some 190 := rfl
theorem lk_m8_7 {sc : Nat × (Int → Int)} : mm_lm (mt_P sc) 8 7 = some 31 := rfl
theorem lk_m8_17 {sc : Nat × (Int → Int)} : mm_lm (mt_P sc) 8 17 = some 43 := rfl
theorem lk_m8_21 {sc : Nat × (Int → Int)} : mm_lm (mt_P sc) 8 21 = some 56 := rfl
theorem lk_m8_25 {sc : Nat × (Int → Int)} : mm_lm (mt_P sc) 8 25 = some 68 := rfl
theorem lk_m8_29 {sc : Nat × (Int → Int)} : mm_lm (mt_P sc) 8 29 = some 72 := rfl
theorem lk_m8_32 {sc : Nat × (Int → Int)} : mm_lm (mt_P sc) 8 32 = some 85 := rfl
theorem lk_m8_36 {sc : Nat × (Int → Int)} : mm_lm (mt_P sc) 8 36 = some 91 := rfl
theorem lk_m8_40 {sc : Nat × (Int → Int)} : mm_lm (mt_P sc) 8 40 = some 98 := rfl
theorem lk_m8_43 {sc : Nat × (Int → Int)} : mm_lm (mt_P sc) 8 43 = some 102 := rfl
theorem lk_m8_46 {sc : Nat × (Int → Int)} : mm_lm (mt_P sc) 8 46 = some 105 := rfl
theorem lk_m8_49 {sc : Nat × (Int → Int)} : mm_lm (mt_P sc) 8 49 = some 108 := rfl
theorem lk_m8_52 {sc : Nat × (Int → Int)} : mm_lm (mt_P sc) 8 52 = some 111 := rfl
theorem lk_m8_56 {sc : Nat × (Int → Int)} : mm_lm (mt_P sc) 8 56 = some 140 := rfl
theorem lk_m8_59 {sc : Nat × (Int → Int)} : mm_lm (mt_P sc) 8 59 = some 157 := rfl
theorem lk_m8_62 {sc : Nat × (Int → Int)} : mm_lm (mt_P sc) 8 62 = some 160 := rfl
theorem lk_m8_65 {sc : Nat × (Int → Int)} : mm_lm (mt_P sc) 8 65 = some 164 := rfl
theorem lk_m8_68 {sc : Nat × (Int → Int)} : mm_lm (mt_P sc) 8 68 = some 167 := rfl
theorem lk_m8_71 {sc : Nat × (Int → Int)} : mm_lm (mt_P sc) 8 71 = some 170 := rfl
theorem lk_m8_74 {sc : Nat × (Int → Int)} : mm_lm (mt_P sc) 8 74 = some 178 := rfl
theorem lk_m8_77 {sc : Nat × (Int → Int)} : mm_lm (mt_P sc) 8 77 = some 183 := rfl
theorem lk_m8_81 {sc : Nat × (Int → Int)} : mm_lm (mt_P sc) 8 81 = some 188 := rfl
theorem lk_m8_84 {sc : Nat × (Int → Int)} : mm_lm (mt_P sc) 8 84 = some 196 := rfl
theorem lk_m8_87 {sc : Nat × (Int → Int)} : mm_lm (mt_P sc) 8 87 = some 7 := rfl
theorem lk_m8_90 {sc : Nat × (Int → Int)} : mm_lm (mt_P sc) 8 90 = some 8 := rfl
theorem lk_m8_91 {sc : Nat × (Int → Int)} : mm_lm (mt_P sc) 8 91 = some 32 := rfl
theorem lk_m8_96 {sc : Nat × (Int → Int)} : mm_lm (mt_P sc) 8 96 = some 40 := rfl
theorem lk_m8_97 {sc : Nat × (Int → Int)} : mm_lm (mt_P sc) 8 97 = some 41 := rfl
theorem lk_m8_101 {sc : Nat × (Int → Int)} : mm_lm (mt_P sc) 8 101 = some 44 := rfl
theorem lk_m8_104 {sc : Nat × (Int → Int)} : mm_lm (mt_P sc) 8 104 = some 47 := rfl
theorem lk_m8_105 {sc : Nat × (Int → Int)} : mm_lm (mt_P sc) 8 105 = some 57 := rfl
theorem lk_m8_108 {sc : Nat × (Int → Int)} : mm_lm (mt_P sc) 8 108 = some 66 := rfl
theorem lk_m8_109 {sc : Nat × (Int → Int)} : mm_lm (mt_P sc) 8 109 = some 69 := rfl
theorem lk_m8_112 {sc : Nat × (Int → Int)} : mm_lm (mt_P sc) 8 112 = some 71 := rfl
theorem lk_m8_113 {sc : Nat × (Int → Int)} : mm_lm (mt_P sc) 8 113 = some 73 := rfl
theorem lk_m8_115 {sc : Nat × (Int → Int)} : mm_lm (mt_P sc) 8 115 = some 75 := rfl
theorem lk_m8_116 {sc : Nat × (Int → Int)} : mm_lm (mt_P sc) 8 116 = some 86 := rfl
theorem lk_m8_119 {sc : Nat × (Int → Int)} : mm_lm (mt_P sc) 8 119 = some 89 := rfl
theorem lk_m8_120 {sc : Nat × (Int → Int)} : mm_lm (mt_P sc) 8 120 = some 92 := rfl
theorem lk_m8_123 {sc : Nat × (Int → Int)} : mm_lm (mt_P sc) 8 123 = some 95 := rfl
theorem lk_m8_124 {sc : Nat × (Int → Int)} : mm_lm (mt_P sc) 8 124 = some 99 := rfl
theorem lk_m8_126 {sc : Nat × (Int → Int)} : mm_lm (mt_P sc) 8 126 = some 101 := rfl
theorem lk_m8_127 {sc : Nat × (Int → Int)} : mm_lm (mt_P sc) 8 127 = some 103 := rfl
theorem lk_m8_129 {sc : Nat × (Int → Int)} : mm_lm (mt_P sc) 8 129 = some 104 := rfl
theorem lk_m8_130 {sc : Nat × (Int → Int)} : mm_lm (mt_P sc) 8 130 = some 106 := rfl
theorem lk_m8_132 {sc : Nat × (Int → Int)} : mm_lm (mt_P sc) 8 132 = some 107 := rfl
theorem lk_m8_133 {sc : Nat × (Int → Int)} : mm_lm (mt_P sc) 8 133 = some 109 := rfl
theorem lk_m8_135 {sc : Nat × (Int → Int)} : mm_lm (mt_P sc) 8 135 = some 110 := rfl
theorem lk_m8_136 {sc : Nat × (Int → Int)} : mm_lm (mt_P sc) 8 136 = some 112 := rfl
theorem lk_m8_138 {sc : Nat × (Int → Int)} : mm_lm (mt_P sc) 8 138 = some 114 := rfl
theorem lk_m8_139 {sc : Nat × (Int → Int)} : mm_lm (mt_P sc) 8 139 = some 141 := rfl
theorem lk_m8_141 {sc : Nat × (Int → Int)} : mm_lm (mt_P sc) 8 141 = some 155 := rfl
theorem lk_m8_142 {sc : Nat × (Int → Int)} : mm_lm (mt_P sc) 8 142 = some 158 := rfl
theorem lk_m8_144 {sc : Nat × (Int → Int)} : mm_lm (mt_P sc) 8 144 = some 159 := rfl
theorem lk_m8_145 {sc : Nat × (Int → Int)} : mm_lm (mt_P sc) 8 145 = some 161 := rfl
theorem lk_m8_147 {sc : Nat × (Int → Int)} : mm_lm (mt_P sc) 8 147 = some 162 := rfl
theorem lk_m8_148 {sc : Nat × (Int → Int)} : mm_lm (mt_P sc) 8 148 = some 165 := rfl
theorem lk_m8_150 {sc : Nat × (Int → Int)} : mm_lm (mt_P sc) 8 150 = some 166 := rfl
theorem lk_m8_151 {sc : Nat × (Int → Int)} : mm_lm (mt_P sc) 8 151 = some 168 := rfl
theorem lk_m8_153 {sc : Nat × (Int → Int)} : mm_lm (mt_P sc) 8 153 = some 169 := rfl
theorem lk_m8_154 {sc : Nat × (Int → Int)} : mm_lm (mt_P sc) 8 154 = some 171 := rfl
theorem lk_m8_156 {sc : Nat × (Int → Int)} : mm_lm (mt_P sc) 8 156 = some 172 := rfl
theorem lk_m8_157 {sc : Nat × (Int → Int)} : mm_lm (mt_P sc) 8 157 = some 179 := rfl
theorem lk_m8_159 {sc : Nat × (Int → Int)} : mm_lm (mt_P sc) 8 159 = some 182 := rfl
theorem lk_m8_160 {sc : Nat × (Int → Int)} : mm_lm (mt_P sc) 8 160 = some 184 := rfl
theorem lk_m8_162 {sc : Nat × (Int → Int)} : mm_lm (mt_P sc) 8 162 = some 185 := rfl
theorem lk_m8_163 {sc : Nat × (Int → Int)} : mm_lm (mt_P sc) 8 163 = some 189 := rfl
theorem lk_m8_165 {sc : Nat × (Int → Int)} : mm_lm (mt_P sc) 8 165 = some 191 := rfl
theorem lk_m8_166 {sc : Nat × (Int → Int)} : mm_lm (mt_P sc) 8 166 = some 197 := rfl
theorem lk_m8_168 {sc : Nat × (Int → Int)} : mm_lm (mt_P sc) 8 168 = some 198 := rfl
theorem lk_m10_311 {sc : Nat × (Int → Int)} : mm_lm (mt_P sc) 10 311 = some 19 := rfl
theorem mv0 : mt_mt[0]? = some (0, 10, 0, 0, none, 0, 0) := rfl
theorem mv1 : mt_mt[1]? = some (0, 2, 0, 1, none, 1, 41) := rfl
theorem mv2 : mt_mt[2]? = some (5, 2, 0, 1, none, 1, 41) := rfl
theorem mv3 : mt_mt[3]? = some (2, 2, 0, 1, none, 2, 61) := rfl
theorem mv4 : mt_mt[4]? = some (3, 2, 0, 1, none, 1, 41) := rfl
theorem mv5 : mt_mt[5]? = some (4, 2, 0, 1, none, 1, 41) := rfl
theorem mv6 : mt_mt[6]? = some (1, 2, 0, 1, none, 1, 41) := rfl
theorem mv7 : mt_mt[7]? = some (6, 2, 0, 2, none, 3, 81) := rfl
theorem mv8 : mt_mt[8]? = some (7, 2, 0, 1, none, 1, 41) := rfl
theorem mv9 : mt_mt[9]? = some (6, 0, 1, 1, none, 6, 81) := rfl
theorem mv10 : mt_mt[10]? = some (6, 0, 3, 3, none, 6, 81) := rfl
theorem mv11 : mt_mt[11]? = some (9, 0, 2, 5, none, 0, 0) := rfl
theorem mv12 : mt_mt[12]? = some (5, 1, 0, 1, none, 1, 24) := rfl
theorem mv13 : mt_mt[13]? = some (0, 11, 2, 0, none, 0, 0) := rfl
theorem mv14 : mt_mt[14]? = some (0, 12, 2, 0, none, 0, 0) := rfl
theorem mv15 : mt_mt[15]? = some (5, 0, 3, 5, (some .long), 0, 0) := rfl
theorem mv16 : mt_mt[16]? = some (5, 1, 3, 9, none, 1, 42) := rfl
theorem mv17 : mt_mt[17]? = some (5, 1, 2, 3, none, 2, 70) := rfl
theorem mv18 : mt_mt[18]? = some (2, 1, 0, 1, none, 0, 0) := rfl
theorem mv19 : mt_mt[19]? = some (11, 0, 1, 2, (some .int), 0, 0) := rfl
theorem mv20 : mt_mt[20]? = some (10, 0, 1, 3, (some .int), 1, 21) := rfl
theorem mv21 : mt_mt[21]? = some (5, 1, 2, 8, (some .int), 2, 43) := rfl
theorem mv22 : mt_mt[22]? = some (5, 1, 1, 2, (some .int), 3, 70) := rfl
theorem mv23 : mt_mt[23]? = some (5, 1, 0, 1, (some .boolean), 4, 91) := rfl
theorem mv24 : mt_mt[24]? = some (5, 1, 1, 3, (some .boolean), 0, 0) := rfl
theorem mv25 : mt_mt[25]? = some (5, 1, 1, 2, (some .int), 3, 70) := rfl
theorem mv26 : mt_mt[26]? = some (2, 1, 2, 5, none, 4, 91) := rfl
theorem mv27 : mt_mt[27]? = some (0, 14, 5, 0, none, 0, 0) := rfl
theorem mv28 : mt_mt[28]? = some (5, 1, 1, 2, none, 1, 45) := rfl
theorem mv29 : mt_mt[29]? = some (2, 1, 3, 5, none, 5, 115) := rfl
theorem mv30 : mt_mt[30]? = some (6, 1, 1, 3, (some .int), 0, 0) := rfl
theorem mv31 : mt_mt[31]? = some (6, 1, 5, 6, none, 7, 139) := rfl
theorem mv32 : mt_mt[32]? = some (8, 0, 6, 7, (some .int), 8, 164) := rfl
theorem mv33 : mt_mt[33]? = some (7, 0, 3, 3, (some .boolean), 0, 0) := rfl
theorem mv34 : mt_mt[34]? = some (7, 1, 1, 2, (some .boolean), 0, 0) := rfl
theorem mv35 : mt_mt[35]? = some (7, 1, 0, 1, none, 0, 0) := rfl
theorem mv36 : mt_mt[36]? = some (7, 1, 2, 3, none, 0, 0) := rfl
theorem mv37 : mt_mt[37]? = some (7, 1, 0, 4, (some .boolean), 0, 0) := rfl
theorem mv38 : mt_mt[38]? = some (7, 1, 2, 5, none, 1, 23) := rfl
theorem mv39 : mt_mt[39]? = some (7, 1, 1, 3, (some .int), 0, 0) := rfl
theorem mv40 : mt_mt[40]? = some (7, 1, 5, 8, none, 2, 47) := rfl
theorem mv41 : mt_mt[41]? = some (7, 1, 0, 1, (some .int), 0, 0) := rfl
theorem mv42 : mt_mt[42]? = some (0, 1, 0, 4, (some .int), 0, 0) := rfl
theorem mv43 : mt_mt[43]? = some (6, 1, 1, 3, (some .int), 7, 101) := rfl
theorem mv44 : mt_mt[44]? = some (8, 0, 3, 4, (some .int), 8, 123) := rfl
theorem mv45 : mt_mt[45]? = some (7, 1, 1, 2, (some .int), 0, 0) := rfl
theorem mv46 : mt_mt[46]? = some (7, 1, 1, 5, (some .int), 1, 21) := rfl
theorem mv47 : mt_mt[47]? = some (7, 1, 1, 3, (some .int), 2, 45) := rfl
theorem mv48 : mt_mt[48]? = some (0, 1, 2, 4, none, 3, 92) := rfl
theorem mv49 : mt_mt[49]? = some (0, 1, 1, 5, (some .int), 0, 0) := rfl
theorem mv50 : mt_mt[50]? = some (0, 1, 1, 2, (some .int), 0, 0) := rfl
theorem mv51 : mt_mt[51]? = some (0, 1, 1, 2, (some .int), 0, 0) := rfl
theorem mv52 : mt_mt[52]? = some (0, 1, 4, 6, none, 3, 92) := rfl
theorem mv53 : mt_mt[53]? = some (6, 0, 3, 3, none, 4, 117) := rfl
theorem mv54 : mt_mt[54]? = some (5, 0, 3, 5, (some .long), 0, 0) := rfl
theorem mv55 : mt_mt[55]? = some (5, 1, 2, 4, none, 1, 24) := rfl
theorem mv56 : mt_mt[56]? = some (6, 1, 4, 7, (some .int), 7, 139) := rfl
theorem mv57 : mt_mt[57]? = some (8, 0, 6, 7, (some .int), 8, 165) := rfl
theorem mv58 : mt_mt[58]? = some (7, 1, 1, 5, none, 0, 0) := rfl
theorem mv59 : mt_mt[59]? = some (7, 1, 1, 3, none, 1, 24) := rfl
theorem mv60 : mt_mt[60]? = some (7, 1, 2, 5, (some .int), 1, 21) := rfl
theorem mv61 : mt_mt[61]? = some (7, 1, 2, 5, none, 2, 45) := rfl
theorem mv62 : mt_mt[62]? = some (7, 1, 2, 5, none, 2, 45) := rfl
theorem mv63 : mt_mt[63]? = some (7, 1, 1, 2, (some .int), 0, 0) := rfl
theorem mv64 : mt_mt[64]? = some (7, 1, 1, 2, (some .int), 0, 0) := rfl
theorem mv65 : mt_mt[65]? = some (7, 1, 1, 10, none, 1, 22) := rfl
theorem mv66 : mt_mt[66]? = some (7, 1, 4, 6, (some .int), 3, 69) := rfl
theorem mv67 : mt_mt[67]? = some (5, 1, 2, 3, none, 2, 70) := rfl
theorem mv68 : mt_mt[68]? = some (6, 1, 2, 5, (some .int), 7, 139) := rfl
theorem mv69 : mt_mt[69]? = some (8, 0, 4, 5, (some .int), 8, 163) := rfl
theorem mv70 : mt_mt[70]? = some (7, 1, 2, 3, (some .boolean), 1, 21) := rfl
theorem mv71 : mt_mt[71]? = some (7, 1, 2, 4, (some .int), 3, 69) := rfl
theorem mv72 : mt_mt[72]? = some (6, 1, 4, 7, (some .int), 7, 139) := rfl
theorem mv73 : mt_mt[73]? = some (8, 0, 6, 7, (some .int), 8, 165) := rfl
theorem mv74 : mt_mt[74]? = some (7, 0, 1, 1, (some .int), 0, 0) := rfl
theorem mv75 : mt_mt[75]? = some (7, 1, 4, 7, (some .int), 2, 47) := rfl
theorem mv76 : mt_mt[76]? = some (6, 1, 2, 4, none, 3, 92) := rfl
theorem mv77 : mt_mt[77]? = some (6, 1, 1, 3, none, 6, 139) := rfl
theorem mv78 : mt_mt[78]? = some (6, 1, 1, 3, none, 6, 139) := rfl
theorem mv79 : mt_mt[79]? = some (0, 1, 0, 1, (some .int), 0, 0) := rfl
theorem mv80 : mt_mt[80]? = some (0, 1, 1, 3, none, 3, 92) := rfl
theorem mv81 : mt_mt[81]? = some (0, 1, 2, 6, (some .int), 0, 0) := rfl
theorem mv82 : mt_mt[82]? = some (0, 1, 2, 4, (some .int), 1, 25) := rfl
theorem mv83 : mt_mt[83]? = some (6, 1, 2, 4, none, 3, 92) := rfl
theorem mv84 : mt_mt[84]? = some (6, 1, 1, 4, none, 6, 139) := rfl
theorem mv85 : mt_mt[85]? = some (6, 1, 3, 4, (some .int), 7, 162) := rfl
theorem mv86 : mt_mt[86]? = some (8, 0, 5, 6, (some .int), 8, 185) := rfl
theorem mv87 : mt_mt[87]? = some (7, 1, 1, 3, none, 1, 24) := rfl
theorem mv88 : mt_mt[88]? = some (7, 1, 2, 5, (some .boolean), 0, 0) := rfl
theorem mv89 : mt_mt[89]? = some (7, 1, 3, 8, (some .int), 2, 47) := rfl
theorem mv90 : mt_mt[90]? = some (6, 0, 4, 4, none, 7, 103) := rfl
theorem mv91 : mt_mt[91]? = some (6, 1, 6, 11, (some .int), 8, 139) := rfl
theorem mv92 : mt_mt[92]? = some (8, 0, 8, 9, (some .int), 9, 169) := rfl
theorem mv93 : mt_mt[93]? = some (7, 1, 4, 5, (some .boolean), 1, 22) := rfl
theorem mv94 : mt_mt[94]? = some (7, 1, 0, 2, none, 0, 0) := rfl
theorem mv95 : mt_mt[95]? = some (7, 1, 6, 10, (some .int), 2, 51) := rfl
theorem mv96 : mt_mt[96]? = some (0, 1, 1, 2, (some .int), 0, 0) := rfl
theorem mv97 : mt_mt[97]? = some (6, 1, 5, 9, none, 5, 117) := rfl
theorem mv98 : mt_mt[98]? = some (6, 1, 6, 10, (some .int), 8, 145) := rfl
theorem mv99 : mt_mt[99]? = some (8, 0, 8, 9, (some .int), 9, 174) := rfl
theorem mv100 : mt_mt[100]? = some (7, 1, 6, 12, none, 2, 51) := rfl
theorem mv101 : mt_mt[101]? = some (7, 1, 6, 8, (some .int), 3, 82) := rfl
theorem mv102 : mt_mt[102]? = some (6, 1, 1, 2, (some .int), 7, 101) := rfl
theorem mv103 : mt_mt[103]? = some (8, 0, 3, 4, (some .int), 8, 122) := rfl
theorem mv104 : mt_mt[104]? = some (7, 1, 1, 2, (some .int), 1, 21) := rfl
theorem mv105 : mt_mt[105]? = some (6, 1, 3, 5, (some .int), 7, 101) := rfl
theorem mv106 : mt_mt[106]? = some (8, 0, 5, 6, (some .int), 8, 125) := rfl
theorem mv107 : mt_mt[107]? = some (7, 1, 3, 5, (some .int), 1, 22) := rfl
theorem mv108 : mt_mt[108]? = some (6, 1, 4, 6, (some .int), 7, 101) := rfl
theorem mv109 : mt_mt[109]? = some (8, 0, 6, 7, (some .int), 8, 126) := rfl
theorem mv110 : mt_mt[110]? = some (7, 1, 4, 6, (some .int), 1, 22) := rfl
theorem mv111 : mt_mt[111]? = some (6, 1, 3, 4, (some .boolean), 7, 101) := rfl
theorem mv112 : mt_mt[112]? = some (8, 0, 5, 6, (some .int), 8, 124) := rfl
theorem mv113 : mt_mt[113]? = some (7, 1, 3, 8, (some .int), 2, 45) := rfl
theorem mv114 : mt_mt[114]? = some (7, 1, 3, 4, (some .boolean), 3, 72) := rfl
theorem mv115 : mt_mt[115]? = some (9, 0, 2, 4, none, 0, 0) := rfl
theorem mv116 : mt_mt[116]? = some (3, 0, 1, 1, (some .boolean), 0, 0) := rfl
theorem mv117 : mt_mt[117]? = some (0, 1, 1, 5, (some .int), 0, 0) := rfl
theorem mv118 : mt_mt[118]? = some (3, 1, 2, 3, none, 0, 0) := rfl
theorem mv119 : mt_mt[119]? = some (0, 1, 1, 2, (some .int), 0, 0) := rfl
theorem mv120 : mt_mt[120]? = some (3, 1, 5, 7, (some .int), 1, 25) := rfl
theorem mv121 : mt_mt[121]? = some (3, 1, 5, 7, (some .int), 1, 25) := rfl
theorem mv122 : mt_mt[122]? = some (3, 1, 2, 6, (some .int), 2, 51) := rfl
theorem mv123 : mt_mt[123]? = some (3, 1, 2, 6, (some .int), 2, 51) := rfl
theorem mv124 : mt_mt[124]? = some (3, 1, 3, 7, none, 3, 76) := rfl
theorem mv125 : mt_mt[125]? = some (3, 1, 1, 4, none, 4, 102) := rfl
theorem mv126 : mt_mt[126]? = some (6, 1, 1, 2, (some (.object "CellAreas$Loops")), 5, 125) := rfl
theorem mv127 : mt_mt[127]? = some (3, 1, 2, 3, (some .int), 0, 0) := rfl
theorem mv128 : mt_mt[128]? = some (3, 1, 1, 2, (some .int), 0, 0) := rfl
theorem mv129 : mt_mt[129]? = some (0, 13, 1, 0, none, 0, 0) := rfl
theorem mv130 : mt_mt[130]? = some (3, 1, 1, 2, (some .int), 0, 0) := rfl
theorem mv131 : mt_mt[131]? = some (3, 1, 1, 5, (some .int), 1, 43) := rfl
theorem mv132 : mt_mt[132]? = some (3, 1, 0, 3, (some .int), 2, 67) := rfl
theorem mv133 : mt_mt[133]? = some (4, 1, 1, 3, (some .int), 0, 0) := rfl
theorem mv134 : mt_mt[134]? = some (4, 1, 2, 5, none, 1, 44) := rfl
theorem mv135 : mt_mt[135]? = some (4, 1, 3, 6, none, 2, 68) := rfl
theorem mv136 : mt_mt[136]? = some (4, 1, 1, 3, none, 3, 93) := rfl
theorem mv137 : mt_mt[137]? = some (6, 1, 1, 2, (some (.object "CellAreas$Parts")), 4, 115) := rfl
theorem mv138 : mt_mt[138]? = some (3, 1, 1, 6, (some .int), 1, 22) := rfl
theorem mv139 : mt_mt[139]? = some (3, 1, 0, 3, (some .int), 2, 47) := rfl
theorem mv140 : mt_mt[140]? = some (6, 1, 2, 3, (some .int), 7, 146) := rfl
theorem mv141 : mt_mt[141]? = some (8, 0, 4, 5, (some .int), 8, 168) := rfl
theorem mv142 : mt_mt[142]? = some (7, 1, 0, 3, (some .int), 2, 51) := rfl
theorem mv143 : mt_mt[143]? = some (7, 1, 1, 6, (some .int), 3, 73) := rfl
theorem mv144 : mt_mt[144]? = some (7, 1, 1, 8, (some .int), 1, 21) := rfl
theorem mv145 : mt_mt[145]? = some (7, 1, 1, 5, none, 2, 46) := rfl
theorem mv146 : mt_mt[146]? = some (7, 1, 2, 3, (some .boolean), 0, 0) := rfl
theorem mv147 : mt_mt[147]? = some (7, 1, 1, 9, none, 0, 0) := rfl
theorem mv148 : mt_mt[148]? = some (7, 1, 1, 5, (some .int), 3, 70) := rfl
theorem mv149 : mt_mt[149]? = some (7, 1, 3, 8, (some .boolean), 1, 22) := rfl
theorem mv150 : mt_mt[150]? = some (7, 1, 3, 4, (some .int), 0, 0) := rfl
theorem mv151 : mt_mt[151]? = some (7, 1, 0, 3, none, 2, 49) := rfl
theorem mv152 : mt_mt[152]? = some (7, 1, 3, 4, none, 3, 71) := rfl
theorem mv153 : mt_mt[153]? = some (7, 1, 1, 5, none, 4, 94) := rfl
theorem mv154 : mt_mt[154]? = some (7, 1, 2, 8, none, 3, 71) := rfl
theorem mv155 : mt_mt[155]? = some (7, 1, 2, 5, (some .int), 5, 118) := rfl
theorem mv156 : mt_mt[156]? = some (3, 1, 1, 2, (some .int), 0, 0) := rfl
theorem mv157 : mt_mt[157]? = some (6, 1, 3, 5, (some .int), 7, 146) := rfl
theorem mv158 : mt_mt[158]? = some (8, 0, 5, 6, (some .int), 8, 170) := rfl
theorem mv159 : mt_mt[159]? = some (7, 1, 3, 4, (some .int), 5, 118) := rfl
theorem mv160 : mt_mt[160]? = some (6, 1, 4, 7, (some .int), 7, 146) := rfl
theorem mv161 : mt_mt[161]? = some (8, 0, 6, 7, (some .int), 8, 172) := rfl
theorem mv162 : mt_mt[162]? = some (7, 1, 4, 5, (some .int), 5, 118) := rfl
theorem mv163 : mt_mt[163]? = some (3, 1, 4, 6, none, 3, 92) := rfl
theorem mv164 : mt_mt[164]? = some (6, 1, 3, 7, (some .int), 7, 146) := rfl
theorem mv165 : mt_mt[165]? = some (8, 0, 5, 6, (some .int), 8, 172) := rfl
theorem mv166 : mt_mt[166]? = some (7, 1, 3, 9, (some .int), 5, 118) := rfl
theorem mv167 : mt_mt[167]? = some (6, 1, 3, 5, (some .int), 7, 136) := rfl
theorem mv168 : mt_mt[168]? = some (8, 0, 5, 6, (some .int), 8, 160) := rfl
theorem mv169 : mt_mt[169]? = some (7, 1, 3, 6, (some .int), 3, 72) := rfl
theorem mv170 : mt_mt[170]? = some (6, 1, 3, 8, (some .int), 7, 139) := rfl
theorem mv171 : mt_mt[171]? = some (8, 0, 5, 6, (some .int), 8, 166) := rfl
theorem mv172 : mt_mt[172]? = some (7, 1, 3, 6, (some .int), 2, 48) := rfl
theorem mv173 : mt_mt[173]? = some (1, 1, 0, 1, none, 0, 0) := rfl
theorem mv174 : mt_mt[174]? = some (1, 1, 3, 4, (some .boolean), 0, 0) := rfl
theorem mv175 : mt_mt[175]? = some (1, 1, 4, 6, none, 1, 23) := rfl
theorem mv176 : mt_mt[176]? = some (6, 1, 2, 5, none, 4, 91) := rfl
theorem mv177 : mt_mt[177]? = some (6, 1, 1, 4, none, 5, 117) := rfl
theorem mv178 : mt_mt[178]? = some (6, 1, 2, 3, (some .int), 7, 140) := rfl
theorem mv179 : mt_mt[179]? = some (8, 0, 4, 5, (some .int), 8, 162) := rfl
theorem mv180 : mt_mt[180]? = some (7, 1, 4, 7, none, 0, 0) := rfl
theorem mv181 : mt_mt[181]? = some (7, 1, 1, 5, none, 1, 26) := rfl
theorem mv182 : mt_mt[182]? = some (7, 1, 2, 4, (some .int), 3, 70) := rfl
theorem mv183 : mt_mt[183]? = some (6, 1, 2, 6, (some .boolean), 7, 139) := rfl
theorem mv184 : mt_mt[184]? = some (8, 0, 4, 5, (some .int), 8, 164) := rfl
theorem mv185 : mt_mt[185]? = some (7, 1, 2, 5, (some .boolean), 3, 69) := rfl
theorem mv186 : mt_mt[186]? = some (6, 0, 4, 4, (some .int), 1, 43) := rfl
theorem mv187 : mt_mt[187]? = some (6, 0, 4, 7, (some .int), 2, 66) := rfl
theorem mv188 : mt_mt[188]? = some (6, 1, 2, 9, (some .int), 7, 101) := rfl
theorem mv189 : mt_mt[189]? = some (8, 0, 4, 5, (some .int), 8, 129) := rfl
theorem mv190 : mt_mt[190]? = some (7, 0, 4, 4, (some .int), 0, 0) := rfl
theorem mv191 : mt_mt[191]? = some (7, 1, 2, 11, (some .int), 2, 43) := rfl
theorem mv192 : mt_mt[192]? = some (3, 1, 1, 3, none, 3, 92) := rfl
theorem mv193 : mt_mt[193]? = some (3, 1, 2, 6, none, 3, 92) := rfl
theorem mv194 : mt_mt[194]? = some (0, 1, 1, 3, (some .boolean), 1, 20) := rfl
theorem mv195 : mt_mt[195]? = some (3, 1, 0, 3, (some .int), 2, 47) := rfl
theorem mv196 : mt_mt[196]? = some (6, 1, 1, 5, (some .int), 7, 146) := rfl
theorem mv197 : mt_mt[197]? = some (8, 0, 3, 4, (some .int), 8, 170) := rfl
theorem mv198 : mt_mt[198]? = some (7, 1, 1, 2, (some .int), 1, 21) := rfl
theorem mv199 : mt_mt[199]? = some (8, 0, 1, 7, (some .boolean), 10, 210) := rfl
