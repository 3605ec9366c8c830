/-! 20c.look: what the tables answer (written by wip/whole/wgen.py) -/
set_option maxRecDepth 10000 in
theorem lf_0_9 : xlk xfL 0 9 = some (0, 5, 2, 1) := rfl
set_option maxRecDepth 10000 in
theorem lf_0_15 : xlk xfL 0 15 = some (0, 3, 2, 1) := rfl
set_option maxRecDepth 10000 in
theorem lf_0_19 : xlk xfL 0 19 = some (0, 4, 2, 1) := rfl
set_option maxRecDepth 10000 in
theorem lf_0_23 : xlk xfL 0 23 = some (0, 6, 0, 0) := rfl
set_option maxRecDepth 10000 in
theorem lf_0_27 : xlk xfL 0 27 = some (0, 7, 0, 0) := rfl
set_option maxRecDepth 10000 in
theorem lf_0_30 : xlk xfL 0 30 = some (0, 0, 0, 0) := rfl
set_option maxRecDepth 10000 in
theorem lf_0_33 : xlk xfL 0 33 = some (3, 0, 0, 0) := rfl
set_option maxRecDepth 10000 in
theorem lf_0_46 : xlk xfL 0 46 = some (8, 0, 0, 2) := rfl
set_option maxRecDepth 10000 in
theorem lf_0_55 : xlk xfL 0 55 = some (0, 1, 0, 0) := rfl
set_option maxRecDepth 10000 in
theorem lf_0_58 : xlk xfL 0 58 = some (8, 4, 2, 2) := rfl
set_option maxRecDepth 10000 in
theorem lf_0_66 : xlk xfL 0 66 = some (5, 0, 2, 0) := rfl
set_option maxRecDepth 10000 in
theorem lf_0_78 : xlk xfL 0 78 = some (8, 3, 2, 2) := rfl
set_option maxRecDepth 10000 in
theorem lf_0_81 : xlk xfL 0 81 = some (5, 6, 0, 0) := rfl
set_option maxRecDepth 10000 in
theorem lf_0_84 : xlk xfL 0 84 = some (8, 1, 0, 2) := rfl
set_option maxRecDepth 10000 in
theorem lf_0_120 : xlk xfL 0 120 = some (0, 2, 0, 0) := rfl
set_option maxRecDepth 10000 in
theorem lf_0_133 : xlk xfL 0 133 = some (4, 0, 0, 2) := rfl
set_option maxRecDepth 10000 in
theorem lf_0_148 : xlk xfL 0 148 = some (8, 2, 0, 2) := rfl
set_option maxRecDepth 10000 in
theorem lf_0_154 : xlk xfL 0 154 = some (5, 1, 0, 0) := rfl
set_option maxRecDepth 10000 in
theorem lf_0_221 : xlk xfL 0 221 = some (5, 2, 1, 0) := rfl
set_option maxRecDepth 10000 in
theorem lf_0_227 : xlk xfL 0 227 = some (5, 3, 1, 0) := rfl
set_option maxRecDepth 10000 in
theorem lf_0_243 : xlk xfL 0 243 = some (5, 4, 0, 0) := rfl
set_option maxRecDepth 10000 in
theorem lf_1_9 : xlk xfL 1 9 = some (1, 2, 2, 1) := rfl
set_option maxRecDepth 10000 in
theorem lf_1_15 : xlk xfL 1 15 = some (3, 0, 0, 0) := rfl
set_option maxRecDepth 10000 in
theorem lf_1_25 : xlk xfL 1 25 = some (1, 3, 0, 0) := rfl
set_option maxRecDepth 10000 in
theorem lf_1_34 : xlk xfL 1 34 = some (1, 1, 0, 0) := rfl
set_option maxRecDepth 10000 in
theorem lf_1_43 : xlk xfL 1 43 = some (1, 0, 0, 0) := rfl
set_option maxRecDepth 10000 in
theorem lf_2_11 : xlk xfL 2 11 = some (2, 0, 2, 1) := rfl
set_option maxRecDepth 10000 in
theorem lf_2_16 : xlk xfL 2 16 = some (2, 1, 2, 1) := rfl
set_option maxRecDepth 10000 in
theorem lf_2_24 : xlk xfL 2 24 = some (3, 0, 0, 0) := rfl
set_option maxRecDepth 10000 in
theorem lf_2_34 : xlk xfL 2 34 = some (8, 3, 2, 2) := rfl
set_option maxRecDepth 10000 in
theorem lf_3_11 : xlk xfL 3 11 = some (3, 1, 2, 1) := rfl
set_option maxRecDepth 10000 in
theorem lf_3_17 : xlk xfL 3 17 = some (3, 2, 2, 1) := rfl
set_option maxRecDepth 10000 in
theorem lf_3_21 : xlk xfL 3 21 = some (3, 3, 2, 1) := rfl
set_option maxRecDepth 10000 in
theorem lf_3_25 : xlk xfL 3 25 = some (3, 4, 2, 1) := rfl
set_option maxRecDepth 10000 in
theorem lf_3_28 : xlk xfL 3 28 = some (3, 0, 0, 0) := rfl
set_option maxRecDepth 10000 in
theorem lf_3_32 : xlk xfL 3 32 = some (8, 4, 2, 2) := rfl
set_option maxRecDepth 10000 in
theorem lf_3_36 : xlk xfL 3 36 = some (5, 0, 2, 0) := rfl
set_option maxRecDepth 10000 in
theorem lf_3_64 : xlk xfL 3 64 = some (8, 1, 0, 2) := rfl
set_option maxRecDepth 10000 in
theorem lf_4_9 : xlk xfL 4 9 = some (4, 0, 0, 1) := rfl
set_option maxRecDepth 10000 in
theorem lf_4_15 : xlk xfL 4 15 = some (4, 1, 0, 1) := rfl
set_option maxRecDepth 10000 in
theorem lf_4_18 : xlk xfL 4 18 = some (4, 2, 2, 1) := rfl
set_option maxRecDepth 10000 in
theorem lf_4_26 : xlk xfL 4 26 = some (4, 3, 0, 0) := rfl
set_option maxRecDepth 10000 in
theorem lf_5_11 : xlk xfL 5 11 = some (5, 7, 2, 1) := rfl
set_option maxRecDepth 10000 in
theorem lf_5_17 : xlk xfL 5 17 = some (5, 0, 2, 0) := rfl
set_option maxRecDepth 10000 in
theorem lf_5_21 : xlk xfL 5 21 = some (5, 1, 0, 0) := rfl
set_option maxRecDepth 10000 in
theorem lf_5_25 : xlk xfL 5 25 = some (5, 2, 1, 0) := rfl
set_option maxRecDepth 10000 in
theorem lf_5_29 : xlk xfL 5 29 = some (5, 3, 1, 0) := rfl
set_option maxRecDepth 10000 in
theorem lf_5_32 : xlk xfL 5 32 = some (5, 4, 0, 0) := rfl
set_option maxRecDepth 10000 in
theorem lf_5_35 : xlk xfL 5 35 = some (5, 5, 0, 0) := rfl
set_option maxRecDepth 10000 in
theorem lf_5_38 : xlk xfL 5 38 = some (5, 6, 0, 0) := rfl
set_option maxRecDepth 10000 in
theorem lf_6_11 : xlk xfL 6 11 = some (6, 0, 2, 1) := rfl
set_option maxRecDepth 10000 in
theorem lf_6_16 : xlk xfL 6 16 = some (6, 1, 2, 1) := rfl
set_option maxRecDepth 10000 in
theorem lf_7_11 : xlk xfL 7 11 = some (7, 1, 2, 1) := rfl
set_option maxRecDepth 10000 in
theorem lf_7_17 : xlk xfL 7 17 = some (7, 0, 0, 0) := rfl
set_option maxRecDepth 10000 in
theorem lf_8_9 : xlk xfL 8 9 = some (8, 3, 2, 1) := rfl
set_option maxRecDepth 10000 in
theorem lf_8_18 : xlk xfL 8 18 = some (8, 4, 2, 1) := rfl
set_option maxRecDepth 10000 in
theorem lf_8_22 : xlk xfL 8 22 = some (8, 6, 2, 1) := rfl
set_option maxRecDepth 10000 in
theorem lf_8_26 : xlk xfL 8 26 = some (8, 0, 0, 1) := rfl
set_option maxRecDepth 10000 in
theorem lf_8_30 : xlk xfL 8 30 = some (8, 1, 0, 1) := rfl
set_option maxRecDepth 10000 in
theorem lf_8_33 : xlk xfL 8 33 = some (8, 2, 0, 1) := rfl
set_option maxRecDepth 10000 in
theorem lf_8_36 : xlk xfL 8 36 = some (8, 5, 2, 1) := rfl
set_option maxRecDepth 10000 in
theorem lf_9_12 : xlk xfL 9 12 = some (9, 0, 2, 1) := rfl
set_option maxRecDepth 10000 in
theorem lf_9_19 : xlk xfL 9 19 = some (9, 1, 2, 1) := rfl
set_option maxRecDepth 10000 in
theorem lf_9_26 : xlk xfL 9 26 = some (9, 2, 2, 1) := rfl
set_option maxRecDepth 10000 in
theorem lf_9_33 : xlk xfL 9 33 = some (9, 3, 2, 1) := rfl
set_option maxRecDepth 10000 in
theorem lf_9_42 : xlk xfL 9 42 = some (9, 4, 2, 1) := rfl
set_option maxRecDepth 10000 in
theorem lf_9_51 : xlk xfL 9 51 = some (9, 5, 2, 1) := rfl
set_option maxRecDepth 10000 in
theorem lf_9_84 : xlk xfL 9 84 = some (8, 3, 2, 2) := rfl
set_option maxRecDepth 10000 in
theorem lf_9_118 : xlk xfL 9 118 = some (1, 1, 0, 0) := rfl
set_option maxRecDepth 10000 in
theorem lf_9_153 : xlk xfL 9 153 = some (4, 0, 0, 2) := rfl
set_option maxRecDepth 10000 in
theorem lf_9_156 : xlk xfL 9 156 = some (4, 1, 0, 2) := rfl
set_option maxRecDepth 10000 in
theorem lf_9_179 : xlk xfL 9 179 = some (0, 0, 0, 0) := rfl
set_option maxRecDepth 10000 in
theorem lf_9_182 : xlk xfL 9 182 = some (0, 1, 0, 0) := rfl
set_option maxRecDepth 10000 in
theorem lf_9_185 : xlk xfL 9 185 = some (0, 2, 0, 0) := rfl
set_option maxRecDepth 10000 in
theorem lf_9_188 : xlk xfL 9 188 = some (3, 0, 0, 0) := rfl
set_option maxRecDepth 10000 in
theorem lf_9_194 : xlk xfL 9 194 = some (1, 0, 0, 0) := rfl
set_option maxRecDepth 10000 in
theorem lf_9_197 : xlk xfL 9 197 = some (7, 0, 0, 0) := rfl
set_option maxRecDepth 10000 in
theorem lf_9_201 : xlk xfL 9 201 = some (8, 1, 0, 2) := rfl
set_option maxRecDepth 10000 in
theorem lf_9_202 : xlk xfL 9 202 = some (8, 4, 2, 2) := rfl
set_option maxRecDepth 10000 in
theorem lf_9_206 : xlk xfL 9 206 = some (5, 5, 0, 0) := rfl
set_option maxRecDepth 10000 in
theorem lf_10_7 : xlk xfL 10 7 = some (10, 1, 2, 1) := rfl
set_option maxRecDepth 10000 in
theorem lf_10_13 : xlk xfL 10 13 = some (10, 2, 2, 1) := rfl
set_option maxRecDepth 10000 in
theorem lf_10_17 : xlk xfL 10 17 = some (10, 4, 2, 1) := rfl
set_option maxRecDepth 10000 in
theorem lf_10_20 : xlk xfL 10 20 = some (10, 5, 2, 1) := rfl
set_option maxRecDepth 10000 in
theorem lf_10_23 : xlk xfL 10 23 = some (10, 6, 2, 1) := rfl
set_option maxRecDepth 10000 in
theorem lf_10_26 : xlk xfL 10 26 = some (10, 7, 2, 1) := rfl
set_option maxRecDepth 10000 in
theorem lf_10_29 : xlk xfL 10 29 = some (10, 8, 2, 1) := rfl
set_option maxRecDepth 10000 in
theorem lf_10_32 : xlk xfL 10 32 = some (10, 9, 2, 1) := rfl
set_option maxRecDepth 10000 in
theorem lf_10_35 : xlk xfL 10 35 = some (10, 13, 2, 1) := rfl
set_option maxRecDepth 10000 in
theorem lf_10_38 : xlk xfL 10 38 = some (10, 14, 2, 1) := rfl
set_option maxRecDepth 10000 in
theorem lf_10_41 : xlk xfL 10 41 = some (10, 20, 2, 1) := rfl
set_option maxRecDepth 10000 in
theorem lf_10_44 : xlk xfL 10 44 = some (10, 21, 2, 1) := rfl
set_option maxRecDepth 10000 in
theorem lf_10_47 : xlk xfL 10 47 = some (10, 23, 2, 1) := rfl
set_option maxRecDepth 10000 in
theorem lf_10_50 : xlk xfL 10 50 = some (10, 24, 2, 1) := rfl
set_option maxRecDepth 10000 in
theorem lf_10_53 : xlk xfL 10 53 = some (10, 25, 2, 1) := rfl
set_option maxRecDepth 10000 in
theorem lf_10_56 : xlk xfL 10 56 = some (10, 26, 2, 1) := rfl
set_option maxRecDepth 10000 in
theorem lf_10_59 : xlk xfL 10 59 = some (10, 27, 2, 1) := rfl
set_option maxRecDepth 10000 in
theorem lf_10_62 : xlk xfL 10 62 = some (10, 29, 2, 1) := rfl
set_option maxRecDepth 10000 in
theorem lf_10_65 : xlk xfL 10 65 = some (10, 30, 2, 1) := rfl
set_option maxRecDepth 10000 in
theorem lf_10_68 : xlk xfL 10 68 = some (10, 3, 0, 0) := rfl
set_option maxRecDepth 10000 in
theorem lf_10_94 : xlk xfL 10 94 = some (10, 16, 0, 0) := rfl
set_option maxRecDepth 10000 in
theorem lf_10_97 : xlk xfL 10 97 = some (10, 17, 0, 0) := rfl
set_option maxRecDepth 10000 in
theorem lf_10_100 : xlk xfL 10 100 = some (10, 18, 0, 0) := rfl
set_option maxRecDepth 10000 in
theorem lf_10_128 : xlk xfL 10 128 = some (10, 19, 0, 0) := rfl
set_option maxRecDepth 10000 in
theorem lf_10_132 : xlk xfL 10 132 = some (10, 28, 0, 0) := rfl
set_option maxRecDepth 10000 in
theorem lf_10_210 : xlk xfL 10 210 = some (10, 15, 0, 0) := rfl
set_option maxRecDepth 10000 in
theorem lf_10_225 : xlk xfL 10 225 = some (10, 11, 0, 0) := rfl
set_option maxRecDepth 10000 in
theorem lf_10_228 : xlk xfL 10 228 = some (10, 12, 0, 0) := rfl
set_option maxRecDepth 10000 in
theorem lf_10_231 : xlk xfL 10 231 = some (10, 10, 0, 0) := rfl
set_option maxRecDepth 10000 in
theorem lf_10_234 : xlk xfL 10 234 = some (10, 22, 0, 0) := rfl
set_option maxRecDepth 10000 in
theorem lf_10_237 : xlk xfL 10 237 = some (10, 0, 0, 0) := rfl
set_option maxRecDepth 10000 in
theorem ln_0_134 : xlk xnL 0 134 = some 4 := rfl
set_option maxRecDepth 10000 in
theorem ln_3_9 : xlk xnL 3 9 = some 8 := rfl
set_option maxRecDepth 10000 in
theorem ln_8_15 : xlk xnL 8 15 = some 5 := rfl
set_option maxRecDepth 10000 in
theorem ln_9_9 : xlk xnL 9 9 = some 3 := rfl
set_option maxRecDepth 10000 in
theorem ln_9_16 : xlk xnL 9 16 = some 6 := rfl
set_option maxRecDepth 10000 in
theorem ln_9_23 : xlk xnL 9 23 = some 2 := rfl
set_option maxRecDepth 10000 in
theorem ln_9_30 : xlk xnL 9 30 = some 7 := rfl
set_option maxRecDepth 10000 in
theorem ln_9_37 : xlk xnL 9 37 = some 1 := rfl
set_option maxRecDepth 10000 in
theorem ln_9_46 : xlk xnL 9 46 = some 0 := rfl
set_option maxRecDepth 10000 in
theorem la_3_9 : xlk xaL 3 9 = some 5 := rfl
set_option maxRecDepth 10000 in
theorem la_5_9 : xlk xaL 5 9 = some 3 := rfl
set_option maxRecDepth 10000 in
theorem la_7_9 : xlk xaL 7 9 = some 3 := rfl
set_option maxRecDepth 10000 in
theorem la_8_15 : xlk xaL 8 15 = some 4 := rfl
set_option maxRecDepth 10000 in
theorem li_0_177 : xlk xiL 0 177 = some (-2147483648) := rfl
set_option maxRecDepth 10000 in
theorem li_0_234 : xlk xiL 0 234 = some 2147483647 := rfl
set_option maxRecDepth 10000 in
theorem li_10_131 : xlk xiL 10 131 = some (-2147483648) := rfl
set_option maxRecDepth 10000 in
theorem li_11_265 : xlk xiL 11 265 = some 1431655765 := rfl
set_option maxRecDepth 10000 in
theorem li_11_266 : xlk xiL 11 266 = some 858993459 := rfl
set_option maxRecDepth 10000 in
theorem li_11_267 : xlk xiL 11 267 = some 252645135 := rfl
set_option maxRecDepth 10000 in
theorem ld_0_192 : xlk xdL 0 192 = some 4643211215818981376 := rfl
set_option maxRecDepth 10000 in
theorem ld_0_225 : xlk xdL 0 225 = some 4620693217682128896 := rfl
set_option maxRecDepth 10000 in
theorem ld_9_211 : xlk xdL 9 211 = some 4696837146684686336 := rfl
set_option maxRecDepth 10000 in
theorem ld_9_213 : xlk xdL 9 213 = some 13920209183539462144 := rfl
set_option maxRecDepth 10000 in
theorem ld_10_110 : xlk xdL 10 110 = some 4696837146684686336 := rfl
set_option maxRecDepth 10000 in
theorem ld_10_112 : xlk xdL 10 112 = some 13920209183539462144 := rfl
set_option maxRecDepth 10000 in
theorem ld_10_122 : xlk xdL 10 122 = some 4643211215818981376 := rfl
set_option maxRecDepth 10000 in
theorem ld_10_138 : xlk xdL 10 138 = some 4620693217682128896 := rfl
set_option maxRecDepth 10000 in
theorem lj_10_114 : xlk xjL 10 114 = some 32767 := rfl
set_option maxRecDepth 10000 in
theorem lj_10_116 : xlk xjL 10 116 = some 2147483647 := rfl
set_option maxRecDepth 10000 in
theorem lo_0_3 : xlk xoL 0 3 = some () := rfl
set_option maxRecDepth 10000 in
theorem lo_1_3 : xlk xoL 1 3 = some () := rfl
set_option maxRecDepth 10000 in
theorem lo_2_3 : xlk xoL 2 3 = some () := rfl
set_option maxRecDepth 10000 in
theorem lo_3_3 : xlk xoL 3 3 = some () := rfl
set_option maxRecDepth 10000 in
theorem lo_4_3 : xlk xoL 4 3 = some () := rfl
set_option maxRecDepth 10000 in
theorem lo_5_3 : xlk xoL 5 3 = some () := rfl
set_option maxRecDepth 10000 in
theorem lo_6_3 : xlk xoL 6 3 = some () := rfl
set_option maxRecDepth 10000 in
theorem lo_7_3 : xlk xoL 7 3 = some () := rfl
set_option maxRecDepth 10000 in
theorem lo_8_3 : xlk xoL 8 3 = some () := rfl
set_option maxRecDepth 10000 in
theorem lo_9_3 : xlk xoL 9 3 = some () := rfl
set_option maxRecDepth 10000 in
theorem lo_10_1 : xlk xoL 10 1 = some () := rfl
set_option maxRecDepth 10000 in
theorem ly_2_38 : xlk xyL 2 38 = some () := rfl
set_option maxRecDepth 10000 in
theorem lg_2_9 : xlk xgL 2 9 = some () := rfl
set_option maxRecDepth 10000 in
theorem lg_6_9 : xlk xgL 6 9 = some () := rfl
set_option maxRecDepth 10000 in
theorem lm_0_38 : xlk xmL 0 38 = some (1, 1, qX3_inLine) := rfl
set_option maxRecDepth 10000 in
theorem lm_0_42 : xlk xmL 0 42 = some (1, 1, qX3_at) := rfl
set_option maxRecDepth 10000 in
theorem lm_0_51 : xlk xmL 0 51 = some (1, 1, qX0_mark) := rfl
set_option maxRecDepth 10000 in
theorem lm_0_62 : xlk xmL 0 62 = some (1, 1, qX0_newRowOf) := rfl
set_option maxRecDepth 10000 in
theorem lm_0_72 : xlk xmL 0 72 = some (1, 0, qX0_closeAll) := rfl
set_option maxRecDepth 10000 in
theorem lm_0_75 : xlk xmL 0 75 = some (1, 0, qX0_finish) := rfl
set_option maxRecDepth 10000 in
theorem lm_0_87 : xlk xmL 0 87 = some (1, 2, qX0_rowAt) := rfl
set_option maxRecDepth 10000 in
theorem lm_0_91 : xlk xmL 0 91 = some (1, 1, qX5_feed) := rfl
set_option maxRecDepth 10000 in
theorem lm_0_95 : xlk xmL 0 95 = some (1, 1, qX0_playTable) := rfl
set_option maxRecDepth 10000 in
theorem lm_0_98 : xlk xmL 0 98 = some (1, 1, qX0_shape) := rfl
set_option maxRecDepth 10000 in
theorem lm_0_101 : xlk xmL 0 101 = some (1, 1, qX0_mix) := rfl
set_option maxRecDepth 10000 in
theorem lm_0_104 : xlk xmL 0 104 = some (1, 1, qX5_fedAgo) := rfl
set_option maxRecDepth 10000 in
theorem lm_0_108 : xlk xmL 0 108 = some (1, 1, qX0_openGate) := rfl
set_option maxRecDepth 10000 in
theorem lm_0_111 : xlk xmL 0 111 = some (1, 1, qX0_turn) := rfl
set_option maxRecDepth 10000 in
theorem lm_0_114 : xlk xmL 0 114 = some (1, 1, qX0_passOn) := rfl
set_option maxRecDepth 10000 in
theorem lm_0_117 : xlk xmL 0 117 = some (1, 1, qX0_average) := rfl
set_option maxRecDepth 10000 in
theorem lm_0_123 : xlk xmL 0 123 = some (1, 1, qX8_cordOf) := rfl
set_option maxRecDepth 10000 in
theorem lm_0_126 : xlk xmL 0 126 = some (1, 1, qX3_givenBy) := rfl
set_option maxRecDepth 10000 in
theorem lm_0_129 : xlk xmL 0 129 = some (1, 2, qX0_fail) := rfl
set_option maxRecDepth 10000 in
theorem lm_0_136 : xlk xmL 0 136 = some (1, 1, qX4_has) := rfl
set_option maxRecDepth 10000 in
theorem lm_0_140 : xlk xmL 0 140 = some (1, 1, qX6_isMissing) := rfl
set_option maxRecDepth 10000 in
theorem lm_0_145 : xlk xmL 0 145 = some (1, 1, qX6_lengthOf) := rfl
set_option maxRecDepth 10000 in
theorem lm_0_151 : xlk xmL 0 151 = some (2, 2, qX4_init) := rfl
set_option maxRecDepth 10000 in
theorem lm_0_157 : xlk xmL 0 157 = some (1, 2, qX6_hasPlace) := rfl
set_option maxRecDepth 10000 in
theorem lm_0_161 : xlk xmL 0 161 = some (1, 2, qX6_at) := rfl
set_option maxRecDepth 10000 in
theorem lm_0_164 : xlk xmL 0 164 = some (1, 4, qX0_putFromTable) := rfl
set_option maxRecDepth 10000 in
theorem lm_0_168 : xlk xmL 0 168 = some (0, 2, qJ9_floorMod_7cf53) := rfl
set_option maxRecDepth 10000 in
theorem lm_0_173 : xlk xmL 0 173 = some (1, 0, qX4_isFloating) := rfl
set_option maxRecDepth 10000 in
theorem lm_0_178 : xlk xmL 0 178 = some (1, 1, qX4_putNoNumber) := rfl
set_option maxRecDepth 10000 in
theorem lm_0_181 : xlk xmL 0 181 = some (1, 4, qX0_putWhole) := rfl
set_option maxRecDepth 10000 in
theorem lm_0_184 : xlk xmL 0 184 = some (1, 2, qX4_put) := rfl
set_option maxRecDepth 10000 in
theorem lm_0_188 : xlk xmL 0 188 = some (1, 3, qX5_heldWithin) := rfl
set_option maxRecDepth 10000 in
theorem lm_0_194 : xlk xmL 0 194 = some (3, 1, qX9_heldFloating) := rfl
set_option maxRecDepth 10000 in
theorem lm_0_198 : xlk xmL 0 198 = some (1, 3, qX0_wantedRow) := rfl
set_option maxRecDepth 10000 in
theorem lm_0_202 : xlk xmL 0 202 = some (1, 2, qX0_endsAhead) := rfl
set_option maxRecDepth 10000 in
theorem lm_0_206 : xlk xmL 0 206 = some (1, 1, qX4_lacksNumberAt) := rfl
set_option maxRecDepth 10000 in
theorem lm_0_209 : xlk xmL 0 209 = some (1, 1, qX4_valueAt) := rfl
set_option maxRecDepth 10000 in
theorem lm_0_213 : xlk xmL 0 213 = some (1, 3, qX0_shapedSample) := rfl
set_option maxRecDepth 10000 in
theorem lm_0_217 : xlk xmL 0 217 = some (1, 2, qX0_gainAt) := rfl
set_option maxRecDepth 10000 in
theorem lm_0_230 : xlk xmL 0 230 = some (1, 0, qX8_inCount) := rfl
set_option maxRecDepth 10000 in
theorem lm_0_235 : xlk xmL 0 235 = some (1, 2, qX0_sumAt) := rfl
set_option maxRecDepth 10000 in
theorem lm_0_239 : xlk xmL 0 239 = some (1, 2, qX0_upAfter) := rfl
set_option maxRecDepth 10000 in
theorem lm_0_246 : xlk xmL 0 246 = some (1, 4, qX0_putFloating) := rfl
set_option maxRecDepth 10000 in
theorem lm_1_21 : xlk xmL 1 21 = some (1, 1, qX3_at) := rfl
set_option maxRecDepth 10000 in
theorem lm_1_28 : xlk xmL 1 28 = some (1, 1, qX8_remember) := rfl
set_option maxRecDepth 10000 in
theorem lm_1_37 : xlk xmL 1 37 = some (0, 2, qJ9_min_7cf53) := rfl
set_option maxRecDepth 10000 in
theorem lm_1_46 : xlk xmL 1 46 = some (1, 1, qX8_becomeAsIn) := rfl
set_option maxRecDepth 10000 in
theorem lm_1_49 : xlk xmL 1 49 = some (0, 2, qJ9_floorMod_7cf53) := rfl
set_option maxRecDepth 10000 in
theorem lm_1_52 : xlk xmL 1 52 = some (1, 0, qX1_undo) := rfl
set_option maxRecDepth 10000 in
theorem lm_2_20 : xlk xmL 2 20 = some (1, 1, qX2_has) := rfl
set_option maxRecDepth 10000 in
theorem lm_2_30 : xlk xmL 2 30 = some (1, 1, qX3_at) := rfl
set_option maxRecDepth 10000 in
theorem lm_2_44 : xlk xmL 2 44 = some (1, 1, qX2_isUnused) := rfl
set_option maxRecDepth 10000 in
theorem lm_3_42 : xlk xmL 3 42 = some (2, 3, qX8_init) := rfl
set_option maxRecDepth 10000 in
theorem lm_3_45 : xlk xmL 3 45 = some (1, 0, qX3_lineUp) := rfl
set_option maxRecDepth 10000 in
theorem lm_3_48 : xlk xmL 3 48 = some (1, 2, qX8_setCord) := rfl
set_option maxRecDepth 10000 in
theorem lm_3_52 : xlk xmL 3 52 = some (1, 0, qX8_inCount) := rfl
set_option maxRecDepth 10000 in
theorem lm_3_56 : xlk xmL 3 56 = some (1, 1, qX8_cordOf) := rfl
set_option maxRecDepth 10000 in
theorem lm_3_60 : xlk xmL 3 60 = some (1, 1, qX3_at) := rfl
set_option maxRecDepth 10000 in
theorem lm_3_67 : xlk xmL 3 67 = some (1, 1, qX3_stepOn) := rfl
set_option maxRecDepth 10000 in
theorem lm_3_71 : xlk xmL 3 71 = some (1, 2, qX3_isFedAtStep) := rfl
set_option maxRecDepth 10000 in
theorem lm_3_75 : xlk xmL 3 75 = some (1, 1, qX3_placeNext) := rfl
set_option maxRecDepth 10000 in
theorem lm_3_78 : xlk xmL 3 78 = some (1, 0, qX3_leastReady) := rfl
set_option maxRecDepth 10000 in
theorem lm_3_81 : xlk xmL 3 81 = some (1, 1, qX3_isReady) := rfl
set_option maxRecDepth 10000 in
theorem lm_4_22 : xlk xmL 4 22 = some (1, 1, qX4_has) := rfl
set_option maxRecDepth 10000 in
theorem lm_4_29 : xlk xmL 4 29 = some (0, 1, qJ6_bitCount_0f7a4) := rfl
set_option maxRecDepth 10000 in
theorem lm_4_35 : xlk xmL 4 35 = some (1, 1, qX4_valueAt) := rfl
set_option maxRecDepth 10000 in
theorem lm_4_39 : xlk xmL 4 39 = some (0, 2, qX4_haveSameBits) := rfl
set_option maxRecDepth 10000 in
theorem lm_5_41 : xlk xmL 5 41 = some (0, 2, qJ9_min_7cf53) := rfl
set_option maxRecDepth 10000 in
theorem lm_5_47 : xlk xmL 5 47 = some (0, 2, qJ9_max_7cf53) := rfl
set_option maxRecDepth 10000 in
theorem lm_6_20 : xlk xmL 6 20 = some (1, 1, qX6_has) := rfl
set_option maxRecDepth 10000 in
theorem lm_6_24 : xlk xmL 6 24 = some (1, 1, qX6_lengthOf) := rfl
set_option maxRecDepth 10000 in
theorem lm_6_28 : xlk xmL 6 28 = some (1, 2, qX6_hasPlace) := rfl
set_option maxRecDepth 10000 in
theorem lm_8_17 : xlk xmL 8 17 = some (4, 0, qX5_init) := rfl
set_option maxRecDepth 10000 in
theorem lm_8_39 : xlk xmL 8 39 = some (1, 1, qX8_hasIn) := rfl
set_option maxRecDepth 10000 in
theorem lm_8_43 : xlk xmL 8 43 = some (1, 1, qX5_copyFrom) := rfl
set_option maxRecDepth 10000 in
theorem lm_9_11 : xlk xmL 9 11 = some (4, 0, qX3_init) := rfl
set_option maxRecDepth 10000 in
theorem lm_9_18 : xlk xmL 9 18 = some (2, 0, qX6_init) := rfl
set_option maxRecDepth 10000 in
theorem lm_9_25 : xlk xmL 9 25 = some (2, 0, qX2_init) := rfl
set_option maxRecDepth 10000 in
theorem lm_9_32 : xlk xmL 9 32 = some (4, 0, qX7_init) := rfl
set_option maxRecDepth 10000 in
theorem lm_9_39 : xlk xmL 9 39 = some (2, 1, qX1_init) := rfl
set_option maxRecDepth 10000 in
theorem lm_9_48 : xlk xmL 9 48 = some (2, 2, qX0_init) := rfl
set_option maxRecDepth 10000 in
theorem lm_9_55 : xlk xmL 9 55 = some (1, 0, qX3_isFull) := rfl
set_option maxRecDepth 10000 in
theorem lm_9_59 : xlk xmL 9 59 = some (1, 2, qX3_add) := rfl
set_option maxRecDepth 10000 in
theorem lm_9_63 : xlk xmL 9 63 = some (1, 1, qX3_at) := rfl
set_option maxRecDepth 10000 in
theorem lm_9_67 : xlk xmL 9 67 = some (1, 1, qX8_hasIn) := rfl
set_option maxRecDepth 10000 in
theorem lm_9_73 : xlk xmL 9 73 = some (1, 2, qX3_shortestLoop) := rfl
set_option maxRecDepth 10000 in
theorem lm_9_76 : xlk xmL 9 76 = some (1, 3, qX3_join) := rfl
set_option maxRecDepth 10000 in
theorem lm_9_80 : xlk xmL 9 80 = some (1, 1, qX8_cordOf) := rfl
set_option maxRecDepth 10000 in
theorem lm_9_88 : xlk xmL 9 88 = some (1, 1, qX6_has) := rfl
set_option maxRecDepth 10000 in
theorem lm_9_91 : xlk xmL 9 91 = some (1, 2, qX6_renew) := rfl
set_option maxRecDepth 10000 in
theorem lm_9_95 : xlk xmL 9 95 = some (1, 1, qX6_isMissing) := rfl
set_option maxRecDepth 10000 in
theorem lm_9_98 : xlk xmL 9 98 = some (1, 2, qX6_hasPlace) := rfl
set_option maxRecDepth 10000 in
theorem lm_9_102 : xlk xmL 9 102 = some (1, 3, qX6_put) := rfl
set_option maxRecDepth 10000 in
theorem lm_9_106 : xlk xmL 9 106 = some (1, 0, qX1_remember) := rfl
set_option maxRecDepth 10000 in
theorem lm_9_109 : xlk xmL 9 109 = some (1, 1, qX0_perform) := rfl
set_option maxRecDepth 10000 in
theorem lm_9_112 : xlk xmL 9 112 = some (1, 0, qX1_advance) := rfl
set_option maxRecDepth 10000 in
theorem lm_9_115 : xlk xmL 9 115 = some (1, 0, qX1_undo) := rfl
set_option maxRecDepth 10000 in
theorem lm_9_122 : xlk xmL 9 122 = some (1, 1, qX1_goBack) := rfl
set_option maxRecDepth 10000 in
theorem lm_9_126 : xlk xmL 9 126 = some (1, 1, qX2_has) := rfl
set_option maxRecDepth 10000 in
theorem lm_9_127 : xlk xmL 9 127 = some (1, 2, qX2_store) := rfl
set_option maxRecDepth 10000 in
theorem lm_9_131 : xlk xmL 9 131 = some (1, 1, qX2_isUnused) := rfl
set_option maxRecDepth 10000 in
theorem lm_9_134 : xlk xmL 9 134 = some (1, 2, qX2_restore) := rfl
set_option maxRecDepth 10000 in
theorem lm_9_137 : xlk xmL 9 137 = some (1, 1, qX3_givenBy) := rfl
set_option maxRecDepth 10000 in
theorem lm_9_141 : xlk xmL 9 141 = some (1, 0, qX7_isFull) := rfl
set_option maxRecDepth 10000 in
theorem lm_9_142 : xlk xmL 9 142 = some (1, 1, qX7_add) := rfl
set_option maxRecDepth 10000 in
theorem lm_9_145 : xlk xmL 9 145 = some (1, 1, qX7_at) := rfl
set_option maxRecDepth 10000 in
theorem lm_9_147 : xlk xmL 9 147 = some (1, 1, qX4_isSameAs) := rfl
set_option maxRecDepth 10000 in
theorem lm_9_159 : xlk xmL 9 159 = some (1, 0, qX4_isSilent) := rfl
set_option maxRecDepth 10000 in
theorem lm_9_162 : xlk xmL 9 162 = some (1, 0, qX4_noneCount) := rfl
set_option maxRecDepth 10000 in
theorem lm_9_166 : xlk xmL 9 166 = some (1, 1, qX4_valueAt) := rfl
set_option maxRecDepth 10000 in
theorem lm_9_170 : xlk xmL 9 170 = some (1, 1, qX4_lacksNumberAt) := rfl
set_option maxRecDepth 10000 in
theorem lm_9_173 : xlk xmL 9 173 = some (1, 1, qX3_inLine) := rfl
set_option maxRecDepth 10000 in
theorem lm_9_176 : xlk xmL 9 176 = some (1, 1, qX0_markAt) := rfl
set_option maxRecDepth 10000 in
theorem lm_9_191 : xlk xmL 9 191 = some (1, 0, qX3_cordCount) := rfl
set_option maxRecDepth 10000 in
theorem lm_9_198 : xlk xmL 9 198 = some (1, 1, qX9_countOfModule) := rfl
set_option maxRecDepth 10000 in
theorem lm_10_72 : xlk xmL 10 72 = some (0, 3, qX10_isIn) := rfl
set_option maxRecDepth 10000 in
theorem lm_10_76 : xlk xmL 10 76 = some (1, 1, qX10_isModule) := rfl
set_option maxRecDepth 10000 in
theorem lm_10_80 : xlk xmL 10 80 = some (1, 2, qX10_leads) := rfl
set_option maxRecDepth 10000 in
theorem lm_10_84 : xlk xmL 10 84 = some (1, 2, qX10_hasIn) := rfl
set_option maxRecDepth 10000 in
theorem lm_10_87 : xlk xmL 10 87 = some (1, 2, qX10_way) := rfl
set_option maxRecDepth 10000 in
theorem lm_10_91 : xlk xmL 10 91 = some (1, 2, qX10_rowAt) := rfl
set_option maxRecDepth 10000 in
theorem lm_10_103 : xlk xmL 10 103 = some (1, 3, qX10_fails) := rfl
set_option maxRecDepth 10000 in
theorem lm_10_106 : xlk xmL 10 106 = some (1, 1, qX10_kindOf) := rfl
set_option maxRecDepth 10000 in
theorem lm_10_118 : xlk xmL 10 118 = some (1, 3, qX10_heldTo) := rfl
set_option maxRecDepth 10000 in
theorem lm_10_124 : xlk xmL 10 124 = some (0, 1, qX10_held) := rfl
set_option maxRecDepth 10000 in
theorem lm_10_135 : xlk xmL 10 135 = some (1, 3, qX10_wholeInto) := rfl
set_option maxRecDepth 10000 in
theorem lm_10_140 : xlk xmL 10 140 = some (1, 3, qX10_hasRow) := rfl
set_option maxRecDepth 10000 in
theorem lm_10_143 : xlk xmL 10 143 = some (1, 3, qX10_hasSample) := rfl
set_option maxRecDepth 10000 in
theorem lm_10_146 : xlk xmL 10 146 = some (1, 3, qX10_isNoneOf) := rfl
set_option maxRecDepth 10000 in
theorem lm_10_149 : xlk xmL 10 149 = some (1, 3, qX10_sampleOf) := rfl
set_option maxRecDepth 10000 in
theorem lm_10_153 : xlk xmL 10 153 = some (1, 3, qX10_shaped) := rfl
set_option maxRecDepth 10000 in
theorem lm_10_157 : xlk xmL 10 157 = some (1, 2, qX10_filtered) := rfl
set_option maxRecDepth 10000 in
theorem lm_10_161 : xlk xmL 10 161 = some (1, 2, qX10_late) := rfl
set_option maxRecDepth 10000 in
theorem lm_10_164 : xlk xmL 10 164 = some (1, 2, qX10_counts) := rfl
set_option maxRecDepth 10000 in
theorem lm_10_167 : xlk xmL 10 167 = some (1, 3, qX10_floatingInto) := rfl
set_option maxRecDepth 10000 in
theorem lm_10_171 : xlk xmL 10 171 = some (1, 4, qX10_copyRow) := rfl
set_option maxRecDepth 10000 in
theorem lm_10_175 : xlk xmL 10 175 = some (1, 2, qX10_noRow) := rfl
set_option maxRecDepth 10000 in
theorem lm_10_179 : xlk xmL 10 179 = some (1, 1, qX10_source) := rfl
set_option maxRecDepth 10000 in
theorem lm_10_182 : xlk xmL 10 182 = some (1, 2, qX10_give) := rfl
set_option maxRecDepth 10000 in
theorem lm_10_185 : xlk xmL 10 185 = some (1, 1, qX10_mix) := rfl
set_option maxRecDepth 10000 in
theorem lm_10_188 : xlk xmL 10 188 = some (1, 1, qX10_delay) := rfl
set_option maxRecDepth 10000 in
theorem lm_10_192 : xlk xmL 10 192 = some (1, 1, qX10_gate) := rfl
set_option maxRecDepth 10000 in
theorem lm_10_195 : xlk xmL 10 195 = some (1, 1, qX10_turn) := rfl
set_option maxRecDepth 10000 in
theorem lm_10_198 : xlk xmL 10 198 = some (1, 1, qX10_doesSwitch) := rfl
set_option maxRecDepth 10000 in
theorem lm_10_201 : xlk xmL 10 201 = some (1, 1, qX10_mean) := rfl
set_option maxRecDepth 10000 in
theorem lm_10_204 : xlk xmL 10 204 = some (1, 1, qX10_shape) := rfl
set_option maxRecDepth 10000 in
theorem lm_10_207 : xlk xmL 10 207 = some (1, 2, qX10_hasActed) := rfl
set_option maxRecDepth 10000 in
theorem lm_10_213 : xlk xmL 10 213 = some (1, 2, qX10_copyState) := rfl
set_option maxRecDepth 10000 in
theorem lm_10_216 : xlk xmL 10 216 = some (1, 0, qX10_setOrder) := rfl
set_option maxRecDepth 10000 in
theorem lm_10_219 : xlk xmL 10 219 = some (1, 1, qX10_acts) := rfl
set_option maxRecDepth 10000 in
theorem lm_10_222 : xlk xmL 10 222 = some (1, 0, qX10_feed) := rfl
set_option maxRecDepth 10000 in
theorem lm_10_240 : xlk xmL 10 240 = some (1, 1, qX10_takeOf) := rfl
set_option maxRecDepth 10000 in
theorem lm_10_243 : xlk xmL 10 243 = some (0, 1, qX10_hasMinus) := rfl
set_option maxRecDepth 10000 in
theorem lm_10_247 : xlk xmL 10 247 = some (1, 2, qX10_isNone) := rfl
set_option maxRecDepth 10000 in
theorem lm_10_250 : xlk xmL 10 250 = some (1, 2, qX10_hasGiven) := rfl
theorem nd_10_114 : xlk xdL 10 114 = none := rfl
theorem nd_10_116 : xlk xdL 10 116 = none := rfl
theorem no_0_151 : xlk xoL 0 151 = none := rfl
theorem ny_0_168 : xlk xyL 0 168 = none := rfl
theorem ny_0_194 : xlk xyL 0 194 = none := rfl
theorem ny_1_37 : xlk xyL 1 37 = none := rfl
theorem ny_1_49 : xlk xyL 1 49 = none := rfl
theorem no_3_42 : xlk xoL 3 42 = none := rfl
theorem ny_4_29 : xlk xyL 4 29 = none := rfl
theorem ny_4_39 : xlk xyL 4 39 = none := rfl
theorem ny_5_41 : xlk xyL 5 41 = none := rfl
theorem ny_5_47 : xlk xyL 5 47 = none := rfl
theorem no_8_17 : xlk xoL 8 17 = none := rfl
theorem no_9_11 : xlk xoL 9 11 = none := rfl
theorem no_9_18 : xlk xoL 9 18 = none := rfl
theorem no_9_25 : xlk xoL 9 25 = none := rfl
theorem no_9_32 : xlk xoL 9 32 = none := rfl
theorem no_9_39 : xlk xoL 9 39 = none := rfl
theorem no_9_48 : xlk xoL 9 48 = none := rfl
theorem ny_10_72 : xlk xyL 10 72 = none := rfl
theorem ny_10_124 : xlk xyL 10 124 = none := rfl
theorem ny_10_243 : xlk xyL 10 243 = none := rfl
