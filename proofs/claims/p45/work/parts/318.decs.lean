theorem rv_lL_9 : Jvm.Cond.methodLink R_law 9 yX9_init ∈ rv_tbl := (rv_mem1 (i := 23) (by decide +kernel) rfl)
theorem rv_lL_12 : Jvm.Cond.methodLink R_law 12 yX10_init ∈ rv_tbl := (rv_mem5 (i := 161) (by decide +kernel) rfl)
theorem rv_lL_13 : Jvm.Cond.methodLink R_law 13 yX9_feed ∈ rv_tbl := (rv_mem2 (i := 171) (by decide +kernel) rfl)
theorem rv_lL_17 : Jvm.Cond.methodLink R_law 17 yX10_feed ∈ rv_tbl := (rv_mem8 (i := 172) (by decide +kernel) rfl)
theorem rv_lL_18 : Jvm.Cond.methodLink R_law 18 yX9_end ∈ rv_tbl := (rv_mem2 (i := 179) (by decide +kernel) rfl)
theorem rv_lL_22 : Jvm.Cond.methodLink R_law 22 yX10_end ∈ rv_tbl := (rv_mem8 (i := 176) (by decide +kernel) rfl)
theorem rv_lL_23 : Jvm.Cond.methodLink R_law 23 yX9_river ∈ rv_tbl := (rv_mem2 (i := 183) (by decide +kernel) rfl)
theorem rv_lL_27 : Jvm.Cond.methodLink R_law 27 yX10_river ∈ rv_tbl := (rv_mem6 (i := 148) (by decide +kernel) rfl)
theorem rv_lL_28 : Jvm.Cond.methodLink R_law 28 yX9_fault ∈ rv_tbl := (rv_mem3 (i := 205) (by decide +kernel) rfl)
theorem rv_lL_31 : Jvm.Cond.methodLink R_law 31 yX10_fault ∈ rv_tbl := (rv_mem7 (i := 59) (by decide +kernel) rfl)
theorem rv_lL_32 : Jvm.Cond.methodLink R_law 32 yX9_person ∈ rv_tbl := (rv_mem3 (i := 209) (by decide +kernel) rfl)
theorem rv_lL_36 : Jvm.Cond.methodLink R_law 36 yX10_person ∈ rv_tbl := (rv_mem7 (i := 63) (by decide +kernel) rfl)
theorem rv_lL_37 : Jvm.Cond.methodLink R_law 37 yX9_matter ∈ rv_tbl := (rv_mem3 (i := 229) (by decide +kernel) rfl)
theorem rv_lL_40 : Jvm.Cond.methodLink R_law 40 yX10_matter ∈ rv_tbl := (rv_mem7 (i := 90) (by decide +kernel) rfl)
theorem rv_lL_41 : Jvm.Cond.methodLink R_law 41 yX9_group ∈ rv_tbl := (rv_mem3 (i := 238) (by decide +kernel) rfl)
theorem rv_lL_44 : Jvm.Cond.methodLink R_law 44 yX10_group ∈ rv_tbl := (rv_mem7 (i := 102) (by decide +kernel) rfl)
theorem rv_lL_45 : Jvm.Cond.methodLink R_law 45 yX9_cross ∈ rv_tbl := (rv_mem4 (i := 89) (by decide +kernel) rfl)
theorem rv_lL_48 : Jvm.Cond.methodLink R_law 48 yX10_cross ∈ rv_tbl := (rv_mem7 (i := 155) (by decide +kernel) rfl)
theorem rv_lL_49 : Jvm.Cond.methodLink R_law 49 yX9_mend ∈ rv_tbl := (rv_mem4 (i := 115) (by decide +kernel) rfl)
theorem rv_lL_52 : Jvm.Cond.methodLink R_law 52 yX10_mend ∈ rv_tbl := (rv_mem7 (i := 171) (by decide +kernel) rfl)
theorem rv_lL_53 : Jvm.Cond.methodLink R_law 53 yX9_hand ∈ rv_tbl := (rv_mem4 (i := 119) (by decide +kernel) rfl)
theorem rv_lL_57 : Jvm.Cond.methodLink R_law 57 yX10_hand ∈ rv_tbl := (rv_mem7 (i := 175) (by decide +kernel) rfl)
theorem rv_lL_58 : Jvm.Cond.methodLink R_law 58 yX9_again ∈ rv_tbl := (rv_mem4 (i := 127) (by decide +kernel) rfl)
theorem rv_lL_61 : Jvm.Cond.methodLink R_law 61 yX10_again ∈ rv_tbl := (rv_mem7 (i := 179) (by decide +kernel) rfl)
theorem rv_lL_62 : Jvm.Cond.methodLink R_law 62 yX9_undo ∈ rv_tbl := (rv_mem4 (i := 131) (by decide +kernel) rfl)
theorem rv_lL_66 : Jvm.Cond.methodLink R_law 66 yX10_undo ∈ rv_tbl := (rv_mem7 (i := 183) (by decide +kernel) rfl)
theorem rv_lL_67 : Jvm.Cond.methodLink R_law 67 yX9_redo ∈ rv_tbl := (rv_mem4 (i := 143) (by decide +kernel) rfl)
theorem rv_lL_70 : Jvm.Cond.methodLink R_law 70 yX10_redo ∈ rv_tbl := (rv_mem7 (i := 191) (by decide +kernel) rfl)
theorem rv_lL_71 : Jvm.Cond.methodLink R_law 71 yX9_soonest ∈ rv_tbl := (rv_mem4 (i := 147) (by decide +kernel) rfl)
theorem rv_lL_74 : Jvm.Cond.methodLink R_law 74 yX10_soonest ∈ rv_tbl := (rv_mem7 (i := 199) (by decide +kernel) rfl)
theorem rv_lL_75 : Jvm.Cond.methodLink R_law 75 yX9_silent ∈ rv_tbl := (rv_mem4 (i := 179) (by decide +kernel) rfl)
theorem rv_lL_78 : Jvm.Cond.methodLink R_law 78 yX10_silent ∈ rv_tbl := (rv_mem7 (i := 231) (by decide +kernel) rfl)
theorem rv_lL_79 : Jvm.Cond.methodLink R_law 79 yX9_lantern ∈ rv_tbl := (rv_mem4 (i := 186) (by decide +kernel) rfl)
theorem rv_lL_82 : Jvm.Cond.methodLink R_law 82 yX10_lantern ∈ rv_tbl := (rv_mem7 (i := 235) (by decide +kernel) rfl)
theorem rv_lL_83 : Jvm.Cond.methodLink R_law 83 yX9_partner ∈ rv_tbl := (rv_mem4 (i := 226) (by decide +kernel) rfl)
theorem rv_lL_86 : Jvm.Cond.methodLink R_law 86 yX10_partner ∈ rv_tbl := (rv_mem8 (i := 4) (by decide +kernel) rfl)
theorem rv_lL_87 : Jvm.Cond.methodLink R_law 87 yX9_hush ∈ rv_tbl := (rv_mem4 (i := 230) (by decide +kernel) rfl)
theorem rv_lL_90 : Jvm.Cond.methodLink R_law 90 yX10_hush ∈ rv_tbl := (rv_mem8 (i := 8) (by decide +kernel) rfl)
theorem rv_lL_91 : Jvm.Cond.methodLink R_law 91 yX9_keep ∈ rv_tbl := (rv_mem4 (i := 234) (by decide +kernel) rfl)
theorem rv_lL_94 : Jvm.Cond.methodLink R_law 94 yX10_keep ∈ rv_tbl := (rv_mem8 (i := 12) (by decide +kernel) rfl)
theorem rv_lL_95 : Jvm.Cond.methodLink R_law 95 yX9_lacks ∈ rv_tbl := (rv_mem5 (i := 2) (by decide +kernel) rfl)
theorem rv_lL_98 : Jvm.Cond.methodLink R_law 98 yX10_lacks ∈ rv_tbl := (rv_mem8 (i := 16) (by decide +kernel) rfl)
theorem rv_lL_99 : Jvm.Cond.methodLink R_law 99 yX9_friends ∈ rv_tbl := (rv_mem5 (i := 61) (by decide +kernel) rfl)
theorem rv_lL_102 : Jvm.Cond.methodLink R_law 102 yX10_friends ∈ rv_tbl := (rv_mem8 (i := 20) (by decide +kernel) rfl)
theorem rv_lL_103 : Jvm.Cond.methodLink R_law 103 yX9_split ∈ rv_tbl := (rv_mem5 (i := 6) (by decide +kernel) rfl)
theorem rv_lL_106 : Jvm.Cond.methodLink R_law 106 yX10_split ∈ rv_tbl := (rv_mem8 (i := 24) (by decide +kernel) rfl)
theorem rv_lL_107 : Jvm.Cond.methodLink R_law 107 yX9_bear ∈ rv_tbl := (rv_mem5 (i := 10) (by decide +kernel) rfl)
theorem rv_lL_110 : Jvm.Cond.methodLink R_law 110 yX10_bear ∈ rv_tbl := (rv_mem8 (i := 28) (by decide +kernel) rfl)
theorem rv_lL_111 : Jvm.Cond.methodLink R_law 111 yX9_ears ∈ rv_tbl := (rv_mem5 (i := 14) (by decide +kernel) rfl)
theorem rv_lL_114 : Jvm.Cond.methodLink R_law 114 yX10_ears ∈ rv_tbl := (rv_mem8 (i := 32) (by decide +kernel) rfl)
theorem rv_lL_115 : Jvm.Cond.methodLink R_law 115 yX9_worth ∈ rv_tbl := (rv_mem5 (i := 18) (by decide +kernel) rfl)
theorem rv_lL_118 : Jvm.Cond.methodLink R_law 118 yX10_worth ∈ rv_tbl := (rv_mem8 (i := 36) (by decide +kernel) rfl)
theorem rv_lL_119 : Jvm.Cond.methodLink R_law 119 yX9_payers ∈ rv_tbl := (rv_mem5 (i := 23) (by decide +kernel) rfl)
theorem rv_lL_122 : Jvm.Cond.methodLink R_law 122 yX10_payers ∈ rv_tbl := (rv_mem8 (i := 41) (by decide +kernel) rfl)
theorem rv_lL_123 : Jvm.Cond.methodLink R_law 123 yX9_longest ∈ rv_tbl := (rv_mem5 (i := 49) (by decide +kernel) rfl)
theorem rv_lL_126 : Jvm.Cond.methodLink R_law 126 yX10_longest ∈ rv_tbl := (rv_mem8 (i := 69) (by decide +kernel) rfl)
theorem rv_lL_127 : Jvm.Cond.methodLink R_law 127 yX9_quiet ∈ rv_tbl := (rv_mem5 (i := 37) (by decide +kernel) rfl)
theorem rv_lL_130 : Jvm.Cond.methodLink R_law 130 yX10_quiet ∈ rv_tbl := (rv_mem8 (i := 57) (by decide +kernel) rfl)
theorem rv_lL_131 : Jvm.Cond.methodLink R_law 131 yX9_voice ∈ rv_tbl := (rv_mem5 (i := 53) (by decide +kernel) rfl)
theorem rv_lL_134 : Jvm.Cond.methodLink R_law 134 yX10_voice ∈ rv_tbl := (rv_mem8 (i := 73) (by decide +kernel) rfl)
theorem rv_lL_135 : Jvm.Cond.methodLink R_law 135 yX9_rich ∈ rv_tbl := (rv_mem5 (i := 57) (by decide +kernel) rfl)
theorem rv_lL_138 : Jvm.Cond.methodLink R_law 138 yX10_rich ∈ rv_tbl := (rv_mem8 (i := 77) (by decide +kernel) rfl)
theorem rv_lL_139 : Jvm.Cond.methodLink R_law 139 yX9_frail ∈ rv_tbl := (rv_mem5 (i := 41) (by decide +kernel) rfl)
theorem rv_lL_142 : Jvm.Cond.methodLink R_law 142 yX10_frail ∈ rv_tbl := (rv_mem8 (i := 61) (by decide +kernel) rfl)
theorem rv_lL_143 : Jvm.Cond.methodLink R_law 143 yX9_within ∈ rv_tbl := (rv_mem5 (i := 45) (by decide +kernel) rfl)
theorem rv_lL_146 : Jvm.Cond.methodLink R_law 146 yX10_within ∈ rv_tbl := (rv_mem8 (i := 65) (by decide +kernel) rfl)
theorem rv_lL_147 : Jvm.Cond.methodLink R_law 147 yX9_talker ∈ rv_tbl := (rv_mem5 (i := 65) (by decide +kernel) rfl)
theorem rv_lL_150 : Jvm.Cond.methodLink R_law 150 yX10_talker ∈ rv_tbl := (rv_mem8 (i := 81) (by decide +kernel) rfl)
theorem rv_lL_151 : Jvm.Cond.methodLink R_law 151 yX9_mute ∈ rv_tbl := (rv_mem5 (i := 70) (by decide +kernel) rfl)
theorem rv_lL_154 : Jvm.Cond.methodLink R_law 154 yX10_mute ∈ rv_tbl := (rv_mem8 (i := 89) (by decide +kernel) rfl)
theorem rv_lL_155 : Jvm.Cond.methodLink R_law 155 yX9_apart ∈ rv_tbl := (rv_mem5 (i := 74) (by decide +kernel) rfl)
theorem rv_lL_158 : Jvm.Cond.methodLink R_law 158 yX10_apart ∈ rv_tbl := (rv_mem8 (i := 93) (by decide +kernel) rfl)
theorem rv_lL_159 : Jvm.Cond.methodLink R_law 159 yX9_knowing ∈ rv_tbl := (rv_mem5 (i := 78) (by decide +kernel) rfl)
theorem rv_lL_162 : Jvm.Cond.methodLink R_law 162 yX10_knowing ∈ rv_tbl := (rv_mem8 (i := 97) (by decide +kernel) rfl)
theorem rv_lL_163 : Jvm.Cond.methodLink R_law 163 yX9_single ∈ rv_tbl := (rv_mem4 (i := 221) (by decide +kernel) rfl)
theorem rv_lL_166 : Jvm.Cond.methodLink R_law 166 yX10_single ∈ rv_tbl := (rv_mem8 (i := 101) (by decide +kernel) rfl)
theorem rv_lL_167 : Jvm.Cond.methodLink R_law 167 yX9_odds ∈ rv_tbl := (rv_mem5 (i := 82) (by decide +kernel) rfl)
theorem rv_lL_170 : Jvm.Cond.methodLink R_law 170 yX10_odds ∈ rv_tbl := (rv_mem8 (i := 105) (by decide +kernel) rfl)
theorem rv_lL_171 : Jvm.Cond.methodLink R_law 171 yX9_lies ∈ rv_tbl := (rv_mem4 (i := 217) (by decide +kernel) rfl)
theorem rv_lL_174 : Jvm.Cond.methodLink R_law 174 yX10_lies ∈ rv_tbl := (rv_mem7 (i := 195) (by decide +kernel) rfl)
theorem rv_lL_175 : Jvm.Cond.methodLink R_law 175 yX9_took ∈ rv_tbl := (rv_mem5 (i := 89) (by decide +kernel) rfl)
theorem rv_lL_179 : Jvm.Cond.methodLink R_law 179 yX10_took ∈ rv_tbl := (rv_mem8 (i := 115) (by decide +kernel) rfl)
theorem rv_lL_180 : Jvm.Cond.methodLink R_law 180 yX9_was ∈ rv_tbl := (rv_mem5 (i := 97) (by decide +kernel) rfl)
theorem rv_lL_183 : Jvm.Cond.methodLink R_law 183 yX10_was ∈ rv_tbl := (rv_mem8 (i := 123) (by decide +kernel) rfl)
theorem rv_lL_184 : Jvm.Cond.methodLink R_law 184 yX9_were ∈ rv_tbl := (rv_mem5 (i := 101) (by decide +kernel) rfl)
theorem rv_lL_187 : Jvm.Cond.methodLink R_law 187 yX10_were ∈ rv_tbl := (rv_mem8 (i := 127) (by decide +kernel) rfl)
theorem rv_lL_188 : Jvm.Cond.methodLink R_law 188 yX9_untell ∈ rv_tbl := (rv_mem5 (i := 105) (by decide +kernel) rfl)
theorem rv_lL_192 : Jvm.Cond.methodLink R_law 192 yX10_untell ∈ rv_tbl := (rv_mem8 (i := 131) (by decide +kernel) rfl)
theorem rv_lL_193 : Jvm.Cond.methodLink R_law 193 yX9_later ∈ rv_tbl := (rv_mem5 (i := 113) (by decide +kernel) rfl)
theorem rv_lL_196 : Jvm.Cond.methodLink R_law 196 yX10_later ∈ rv_tbl := (rv_mem8 (i := 135) (by decide +kernel) rfl)
theorem rv_lL_197 : Jvm.Cond.methodLink R_law 197 yX9_fits ∈ rv_tbl := (rv_mem5 (i := 122) (by decide +kernel) rfl)
theorem rv_lL_200 : Jvm.Cond.methodLink R_law 200 yX10_fits ∈ rv_tbl := (rv_mem8 (i := 140) (by decide +kernel) rfl)
theorem rv_lL_201 : Jvm.Cond.methodLink R_law 201 yX9_sure ∈ rv_tbl := (rv_mem5 (i := 140) (by decide +kernel) rfl)
theorem rv_lL_204 : Jvm.Cond.methodLink R_law 204 yX10_sure ∈ rv_tbl := (rv_mem8 (i := 152) (by decide +kernel) rfl)
theorem rv_lL_205 : Jvm.Cond.methodLink R_law 205 yX9_ask ∈ rv_tbl := (rv_mem5 (i := 144) (by decide +kernel) rfl)
theorem rv_lL_208 : Jvm.Cond.methodLink R_law 208 yX10_ask ∈ rv_tbl := (rv_mem8 (i := 156) (by decide +kernel) rfl)
theorem rv_lL_209 : Jvm.Cond.methodLink R_law 209 yX9_image ∈ rv_tbl := (rv_mem5 (i := 149) (by decide +kernel) rfl)
theorem rv_lL_212 : Jvm.Cond.methodLink R_law 212 yX10_image ∈ rv_tbl := (rv_mem8 (i := 160) (by decide +kernel) rfl)
theorem rv_lL_213 : Jvm.Cond.methodLink R_law 213 yX9_back ∈ rv_tbl := (rv_mem5 (i := 154) (by decide +kernel) rfl)
theorem rv_lL_216 : Jvm.Cond.methodLink R_law 216 yX10_back ∈ rv_tbl := (rv_mem8 (i := 164) (by decide +kernel) rfl)
theorem rv_lL_217 : Jvm.Cond.methodLink R_law 217 yX9_about ∈ rv_tbl := (rv_mem4 (i := 81) (by decide +kernel) rfl)
theorem rv_lL_220 : Jvm.Cond.methodLink R_law 220 yX10_about ∈ rv_tbl := (rv_mem8 (i := 168) (by decide +kernel) rfl)
theorem lw_da0 : lw_Dec (lw_sa 249 [1, 2, 3, 4, 5]) := by unfold lw_Dec; decide +kernel
theorem lw_db0 : lw_Dec (lw_sa 279 [1, 2, 3, 4, 5]) := by unfold lw_Dec; decide +kernel
theorem lw_dc0 : lw_Dec [(248, .aload_n 1, 1), (274, .invokevirtual 13, 3), (274 + 3, .pop, 1), (274 + 4, .aload_n 2, 1), (304, .invokevirtual 17, 3), (304 + 3, .pop, 1), (304 + 4, .goto 1258, 3)] := by unfold lw_Dec; decide +kernel
theorem lw_da1 : lw_Dec (lw_sa 312 [1]) := by unfold lw_Dec; decide +kernel
theorem lw_db1 : lw_Dec (lw_sa 322 [1]) := by unfold lw_Dec; decide +kernel
theorem lw_dc1 : lw_Dec [(311, .aload_n 1, 1), (317, .invokevirtual 18, 3), (317 + 3, .pop, 1), (317 + 4, .aload_n 2, 1), (327, .invokevirtual 22, 3), (327 + 3, .pop, 1), (327 + 4, .goto 1235, 3)] := by unfold lw_Dec; decide +kernel
theorem lw_da2 : lw_Dec (lw_sa 335 []) := by unfold lw_Dec; decide +kernel
theorem lw_db2 : lw_Dec (lw_sa 340 []) := by unfold lw_Dec; decide +kernel
theorem lw_dc2 : lw_Dec [(334, .aload_n 1, 1), (335, .invokevirtual 23, 3), (335 + 3, .pop, 1), (335 + 4, .aload_n 2, 1), (340, .invokevirtual 27, 3), (340 + 3, .pop, 1), (340 + 4, .goto 1222, 3)] := by unfold lw_Dec; decide +kernel
theorem lw_da3 : lw_Dec (lw_sa 348 [1]) := by unfold lw_Dec; decide +kernel
theorem lw_db3 : lw_Dec (lw_sa 358 [1]) := by unfold lw_Dec; decide +kernel
theorem lw_dc3 : lw_Dec [(347, .aload_n 1, 1), (353, .invokevirtual 28, 3), (353 + 3, .pop, 1), (353 + 4, .aload_n 2, 1), (363, .invokevirtual 31, 3), (363 + 3, .pop, 1), (363 + 4, .goto 1199, 3)] := by unfold lw_Dec; decide +kernel
theorem lw_da4 : lw_Dec (lw_sa 371 [1, 2]) := by unfold lw_Dec; decide +kernel
theorem lw_db4 : lw_Dec (lw_sa 386 [1, 2]) := by unfold lw_Dec; decide +kernel
theorem lw_dc4 : lw_Dec [(370, .aload_n 1, 1), (381, .invokevirtual 32, 3), (381 + 3, .pop, 1), (381 + 4, .aload_n 2, 1), (396, .invokevirtual 36, 3), (396 + 3, .pop, 1), (396 + 4, .goto 1166, 3)] := by unfold lw_Dec; decide +kernel
theorem lw_da5 : lw_Dec (lw_sa 404 [1, 2]) := by unfold lw_Dec; decide +kernel
theorem lw_db5 : lw_Dec (lw_sa 419 [1, 2]) := by unfold lw_Dec; decide +kernel
theorem lw_dc5 : lw_Dec [(403, .aload_n 1, 1), (414, .invokevirtual 37, 3), (414 + 3, .pop, 1), (414 + 4, .aload_n 2, 1), (429, .invokevirtual 40, 3), (429 + 3, .pop, 1), (429 + 4, .goto 1133, 3)] := by unfold lw_Dec; decide +kernel
theorem lw_da6 : lw_Dec (lw_sa 437 [1, 2]) := by unfold lw_Dec; decide +kernel
theorem lw_db6 : lw_Dec (lw_sa 452 [1, 2]) := by unfold lw_Dec; decide +kernel
theorem lw_dc6 : lw_Dec [(436, .aload_n 1, 1), (447, .invokevirtual 41, 3), (447 + 3, .pop, 1), (447 + 4, .aload_n 2, 1), (462, .invokevirtual 44, 3), (462 + 3, .pop, 1), (462 + 4, .goto 1100, 3)] := by unfold lw_Dec; decide +kernel
theorem lw_da7 : lw_Dec (lw_sa 470 [1]) := by unfold lw_Dec; decide +kernel
theorem lw_db7 : lw_Dec (lw_sa 480 [1]) := by unfold lw_Dec; decide +kernel
theorem lw_dc7 : lw_Dec [(469, .aload_n 1, 1), (475, .invokevirtual 45, 3), (475 + 3, .pop, 1), (475 + 4, .aload_n 2, 1), (485, .invokevirtual 48, 3), (485 + 3, .pop, 1), (485 + 4, .goto 1077, 3)] := by unfold lw_Dec; decide +kernel
theorem lw_da8 : lw_Dec (lw_sa 493 []) := by unfold lw_Dec; decide +kernel
theorem lw_db8 : lw_Dec (lw_sa 498 []) := by unfold lw_Dec; decide +kernel
theorem lw_dc8 : lw_Dec [(492, .aload_n 1, 1), (493, .invokevirtual 49, 3), (493 + 3, .pop, 1), (493 + 4, .aload_n 2, 1), (498, .invokevirtual 52, 3), (498 + 3, .pop, 1), (498 + 4, .goto 1064, 3)] := by unfold lw_Dec; decide +kernel
theorem lw_da9 : lw_Dec (lw_sa 506 [1, 2, 3]) := by unfold lw_Dec; decide +kernel
theorem lw_db9 : lw_Dec (lw_sa 526 [1, 2, 3]) := by unfold lw_Dec; decide +kernel
theorem lw_dc9 : lw_Dec [(505, .aload_n 1, 1), (521, .invokevirtual 53, 3), (521 + 3, .pop, 1), (521 + 4, .aload_n 2, 1), (541, .invokevirtual 57, 3), (541 + 3, .pop, 1), (541 + 4, .goto 1021, 3)] := by unfold lw_Dec; decide +kernel
theorem lw_da10 : lw_Dec (lw_sa 549 [1]) := by unfold lw_Dec; decide +kernel
theorem lw_db10 : lw_Dec (lw_sa 559 [1]) := by unfold lw_Dec; decide +kernel
theorem lw_dc10 : lw_Dec [(548, .aload_n 1, 1), (554, .invokevirtual 58, 3), (554 + 3, .pop, 1), (554 + 4, .aload_n 2, 1), (564, .invokevirtual 61, 3), (564 + 3, .pop, 1), (564 + 4, .goto 998, 3)] := by unfold lw_Dec; decide +kernel
theorem lw_da11 : lw_Dec (lw_sa 572 []) := by unfold lw_Dec; decide +kernel
theorem lw_db11 : lw_Dec (lw_sa 577 []) := by unfold lw_Dec; decide +kernel
theorem lw_dc11 : lw_Dec [(571, .aload_n 1, 1), (572, .invokevirtual 62, 3), (572 + 3, .pop, 1), (572 + 4, .aload_n 2, 1), (577, .invokevirtual 66, 3), (577 + 3, .pop, 1), (577 + 4, .goto 985, 3)] := by unfold lw_Dec; decide +kernel
theorem lw_da12 : lw_Dec (lw_sa 585 []) := by unfold lw_Dec; decide +kernel
theorem lw_db12 : lw_Dec (lw_sa 590 []) := by unfold lw_Dec; decide +kernel
theorem lw_dc12 : lw_Dec [(584, .aload_n 1, 1), (585, .invokevirtual 67, 3), (585 + 3, .pop, 1), (585 + 4, .aload_n 2, 1), (590, .invokevirtual 70, 3), (590 + 3, .pop, 1), (590 + 4, .goto 972, 3)] := by unfold lw_Dec; decide +kernel
theorem lw_da13 : lw_Dec (lw_sa 598 []) := by unfold lw_Dec; decide +kernel
theorem lw_db13 : lw_Dec (lw_sa 603 []) := by unfold lw_Dec; decide +kernel
theorem lw_dc13 : lw_Dec [(597, .aload_n 1, 1), (598, .invokevirtual 71, 3), (598 + 3, .pop, 1), (598 + 4, .aload_n 2, 1), (603, .invokevirtual 74, 3), (603 + 3, .pop, 1), (603 + 4, .goto 959, 3)] := by unfold lw_Dec; decide +kernel
theorem lw_da14 : lw_Dec (lw_sa 611 [1]) := by unfold lw_Dec; decide +kernel
theorem lw_db14 : lw_Dec (lw_sa 621 [1]) := by unfold lw_Dec; decide +kernel
theorem lw_dc14 : lw_Dec [(610, .aload_n 1, 1), (616, .invokevirtual 75, 3), (616 + 3, .pop, 1), (616 + 4, .aload_n 2, 1), (626, .invokevirtual 78, 3), (626 + 3, .pop, 1), (626 + 4, .goto 936, 3)] := by unfold lw_Dec; decide +kernel
theorem lw_da15 : lw_Dec (lw_sa 634 [1]) := by unfold lw_Dec; decide +kernel
theorem lw_db15 : lw_Dec (lw_sa 644 [1]) := by unfold lw_Dec; decide +kernel
theorem lw_dc15 : lw_Dec [(633, .aload_n 1, 1), (639, .invokevirtual 79, 3), (639 + 3, .pop, 1), (639 + 4, .aload_n 2, 1), (649, .invokevirtual 82, 3), (649 + 3, .pop, 1), (649 + 4, .goto 913, 3)] := by unfold lw_Dec; decide +kernel
theorem lw_da16 : lw_Dec (lw_sa 657 [1, 2]) := by unfold lw_Dec; decide +kernel
theorem lw_db16 : lw_Dec (lw_sa 672 [1, 2]) := by unfold lw_Dec; decide +kernel
theorem lw_dc16 : lw_Dec [(656, .aload_n 1, 1), (667, .invokevirtual 83, 3), (667 + 3, .pop, 1), (667 + 4, .aload_n 2, 1), (682, .invokevirtual 86, 3), (682 + 3, .pop, 1), (682 + 4, .goto 880, 3)] := by unfold lw_Dec; decide +kernel
theorem lw_da17 : lw_Dec (lw_sa 690 [1, 2]) := by unfold lw_Dec; decide +kernel
theorem lw_db17 : lw_Dec (lw_sa 705 [1, 2]) := by unfold lw_Dec; decide +kernel
theorem lw_dc17 : lw_Dec [(689, .aload_n 1, 1), (700, .invokevirtual 87, 3), (700 + 3, .pop, 1), (700 + 4, .aload_n 2, 1), (715, .invokevirtual 90, 3), (715 + 3, .pop, 1), (715 + 4, .goto 847, 3)] := by unfold lw_Dec; decide +kernel
theorem lw_da18 : lw_Dec (lw_sa 723 [1, 2, 3]) := by unfold lw_Dec; decide +kernel
theorem lw_db18 : lw_Dec (lw_sa 743 [1, 2, 3]) := by unfold lw_Dec; decide +kernel
theorem lw_dc18 : lw_Dec [(722, .aload_n 1, 1), (738, .invokevirtual 91, 3), (738 + 3, .pop, 1), (738 + 4, .aload_n 2, 1), (758, .invokevirtual 94, 3), (758 + 3, .pop, 1), (758 + 4, .goto 804, 3)] := by unfold lw_Dec; decide +kernel
theorem lw_da19 : lw_Dec (lw_sa 766 [1]) := by unfold lw_Dec; decide +kernel
theorem lw_db19 : lw_Dec (lw_sa 776 [1]) := by unfold lw_Dec; decide +kernel
theorem lw_dc19 : lw_Dec [(765, .aload_n 1, 1), (771, .invokevirtual 95, 3), (771 + 3, .pop, 1), (771 + 4, .aload_n 2, 1), (781, .invokevirtual 98, 3), (781 + 3, .pop, 1), (781 + 4, .goto 781, 3)] := by unfold lw_Dec; decide +kernel
theorem lw_da20 : lw_Dec (lw_sa 789 [1]) := by unfold lw_Dec; decide +kernel
theorem lw_db20 : lw_Dec (lw_sa 799 [1]) := by unfold lw_Dec; decide +kernel
theorem lw_dc20 : lw_Dec [(788, .aload_n 1, 1), (794, .invokevirtual 99, 3), (794 + 3, .pop, 1), (794 + 4, .aload_n 2, 1), (804, .invokevirtual 102, 3), (804 + 3, .pop, 1), (804 + 4, .goto 758, 3)] := by unfold lw_Dec; decide +kernel
theorem lw_da21 : lw_Dec (lw_sa 812 [1, 2]) := by unfold lw_Dec; decide +kernel
theorem lw_db21 : lw_Dec (lw_sa 827 [1, 2]) := by unfold lw_Dec; decide +kernel
theorem lw_dc21 : lw_Dec [(811, .aload_n 1, 1), (822, .invokevirtual 103, 3), (822 + 3, .pop, 1), (822 + 4, .aload_n 2, 1), (837, .invokevirtual 106, 3), (837 + 3, .pop, 1), (837 + 4, .goto 725, 3)] := by unfold lw_Dec; decide +kernel
theorem lw_da22 : lw_Dec (lw_sa 845 [1]) := by unfold lw_Dec; decide +kernel
theorem lw_db22 : lw_Dec (lw_sa 855 [1]) := by unfold lw_Dec; decide +kernel
theorem lw_dc22 : lw_Dec [(844, .aload_n 1, 1), (850, .invokevirtual 107, 3), (850 + 3, .pop, 1), (850 + 4, .aload_n 2, 1), (860, .invokevirtual 110, 3), (860 + 3, .pop, 1), (860 + 4, .goto 702, 3)] := by unfold lw_Dec; decide +kernel
theorem lw_da23 : lw_Dec (lw_sa 868 [1]) := by unfold lw_Dec; decide +kernel
theorem lw_db23 : lw_Dec (lw_sa 878 [1]) := by unfold lw_Dec; decide +kernel
theorem lw_dc23 : lw_Dec [(867, .aload_n 1, 1), (873, .invokevirtual 111, 3), (873 + 3, .pop, 1), (873 + 4, .aload_n 2, 1), (883, .invokevirtual 114, 3), (883 + 3, .pop, 1), (883 + 4, .goto 679, 3)] := by unfold lw_Dec; decide +kernel
theorem lw_da24 : lw_Dec (lw_sa 891 [1]) := by unfold lw_Dec; decide +kernel
theorem lw_db24 : lw_Dec (lw_sa 901 [1]) := by unfold lw_Dec; decide +kernel
theorem lw_dc24 : lw_Dec [(890, .aload_n 1, 1), (896, .invokevirtual 115, 3), (896 + 3, .pop, 1), (896 + 4, .aload_n 2, 1), (906, .invokevirtual 118, 3), (906 + 3, .pop, 1), (906 + 4, .goto 656, 3)] := by unfold lw_Dec; decide +kernel
theorem lw_da25 : lw_Dec (lw_sa 914 [1]) := by unfold lw_Dec; decide +kernel
theorem lw_db25 : lw_Dec (lw_sa 924 [1]) := by unfold lw_Dec; decide +kernel
theorem lw_dc25 : lw_Dec [(913, .aload_n 1, 1), (919, .invokevirtual 119, 3), (919 + 3, .pop, 1), (919 + 4, .aload_n 2, 1), (929, .invokevirtual 122, 3), (929 + 3, .pop, 1), (929 + 4, .goto 633, 3)] := by unfold lw_Dec; decide +kernel
theorem lw_da26 : lw_Dec (lw_sa 937 [1]) := by unfold lw_Dec; decide +kernel
theorem lw_db26 : lw_Dec (lw_sa 947 [1]) := by unfold lw_Dec; decide +kernel
theorem lw_dc26 : lw_Dec [(936, .aload_n 1, 1), (942, .invokevirtual 123, 3), (942 + 3, .pop, 1), (942 + 4, .aload_n 2, 1), (952, .invokevirtual 126, 3), (952 + 3, .pop, 1), (952 + 4, .goto 610, 3)] := by unfold lw_Dec; decide +kernel
theorem lw_da27 : lw_Dec (lw_sa 960 [1]) := by unfold lw_Dec; decide +kernel
theorem lw_db27 : lw_Dec (lw_sa 970 [1]) := by unfold lw_Dec; decide +kernel
theorem lw_dc27 : lw_Dec [(959, .aload_n 1, 1), (965, .invokevirtual 127, 3), (965 + 3, .pop, 1), (965 + 4, .aload_n 2, 1), (975, .invokevirtual 130, 3), (975 + 3, .pop, 1), (975 + 4, .goto 587, 3)] := by unfold lw_Dec; decide +kernel
theorem lw_da28 : lw_Dec (lw_sa 983 [1, 2]) := by unfold lw_Dec; decide +kernel
theorem lw_db28 : lw_Dec (lw_sa 998 [1, 2]) := by unfold lw_Dec; decide +kernel
theorem lw_dc28 : lw_Dec [(982, .aload_n 1, 1), (993, .invokevirtual 131, 3), (993 + 3, .pop, 1), (993 + 4, .aload_n 2, 1), (1008, .invokevirtual 134, 3), (1008 + 3, .pop, 1), (1008 + 4, .goto 554, 3)] := by unfold lw_Dec; decide +kernel
theorem lw_da29 : lw_Dec (lw_sa 1016 [1]) := by unfold lw_Dec; decide +kernel
theorem lw_db29 : lw_Dec (lw_sa 1026 [1]) := by unfold lw_Dec; decide +kernel
theorem lw_dc29 : lw_Dec [(1015, .aload_n 1, 1), (1021, .invokevirtual 135, 3), (1021 + 3, .pop, 1), (1021 + 4, .aload_n 2, 1), (1031, .invokevirtual 138, 3), (1031 + 3, .pop, 1), (1031 + 4, .goto 531, 3)] := by unfold lw_Dec; decide +kernel
theorem lw_da30 : lw_Dec (lw_sa 1039 [1]) := by unfold lw_Dec; decide +kernel
theorem lw_db30 : lw_Dec (lw_sa 1049 [1]) := by unfold lw_Dec; decide +kernel
theorem lw_dc30 : lw_Dec [(1038, .aload_n 1, 1), (1044, .invokevirtual 139, 3), (1044 + 3, .pop, 1), (1044 + 4, .aload_n 2, 1), (1054, .invokevirtual 142, 3), (1054 + 3, .pop, 1), (1054 + 4, .goto 508, 3)] := by unfold lw_Dec; decide +kernel
theorem lw_da31 : lw_Dec (lw_sa 1062 [1, 2]) := by unfold lw_Dec; decide +kernel
theorem lw_db31 : lw_Dec (lw_sa 1077 [1, 2]) := by unfold lw_Dec; decide +kernel
theorem lw_dc31 : lw_Dec [(1061, .aload_n 1, 1), (1072, .invokevirtual 143, 3), (1072 + 3, .pop, 1), (1072 + 4, .aload_n 2, 1), (1087, .invokevirtual 146, 3), (1087 + 3, .pop, 1), (1087 + 4, .goto 475, 3)] := by unfold lw_Dec; decide +kernel
theorem lw_da32 : lw_Dec (lw_sa 1095 []) := by unfold lw_Dec; decide +kernel
theorem lw_db32 : lw_Dec (lw_sa 1100 []) := by unfold lw_Dec; decide +kernel
theorem lw_dc32 : lw_Dec [(1094, .aload_n 1, 1), (1095, .invokevirtual 147, 3), (1095 + 3, .pop, 1), (1095 + 4, .aload_n 2, 1), (1100, .invokevirtual 150, 3), (1100 + 3, .pop, 1), (1100 + 4, .goto 462, 3)] := by unfold lw_Dec; decide +kernel
theorem lw_da33 : lw_Dec (lw_sa 1108 []) := by unfold lw_Dec; decide +kernel
theorem lw_db33 : lw_Dec (lw_sa 1113 []) := by unfold lw_Dec; decide +kernel
theorem lw_dc33 : lw_Dec [(1107, .aload_n 1, 1), (1108, .invokevirtual 151, 3), (1108 + 3, .pop, 1), (1108 + 4, .aload_n 2, 1), (1113, .invokevirtual 154, 3), (1113 + 3, .pop, 1), (1113 + 4, .goto 449, 3)] := by unfold lw_Dec; decide +kernel
theorem lw_da34 : lw_Dec (lw_sa 1121 []) := by unfold lw_Dec; decide +kernel
theorem lw_db34 : lw_Dec (lw_sa 1126 []) := by unfold lw_Dec; decide +kernel
theorem lw_dc34 : lw_Dec [(1120, .aload_n 1, 1), (1121, .invokevirtual 155, 3), (1121 + 3, .pop, 1), (1121 + 4, .aload_n 2, 1), (1126, .invokevirtual 158, 3), (1126 + 3, .pop, 1), (1126 + 4, .goto 436, 3)] := by unfold lw_Dec; decide +kernel
theorem lw_da35 : lw_Dec (lw_sa 1134 []) := by unfold lw_Dec; decide +kernel
theorem lw_db35 : lw_Dec (lw_sa 1139 []) := by unfold lw_Dec; decide +kernel
theorem lw_dc35 : lw_Dec [(1133, .aload_n 1, 1), (1134, .invokevirtual 159, 3), (1134 + 3, .pop, 1), (1134 + 4, .aload_n 2, 1), (1139, .invokevirtual 162, 3), (1139 + 3, .pop, 1), (1139 + 4, .goto 423, 3)] := by unfold lw_Dec; decide +kernel
theorem lw_da36 : lw_Dec (lw_sa 1147 []) := by unfold lw_Dec; decide +kernel
theorem lw_db36 : lw_Dec (lw_sa 1152 []) := by unfold lw_Dec; decide +kernel
theorem lw_dc36 : lw_Dec [(1146, .aload_n 1, 1), (1147, .invokevirtual 163, 3), (1147 + 3, .pop, 1), (1147 + 4, .aload_n 2, 1), (1152, .invokevirtual 166, 3), (1152 + 3, .pop, 1), (1152 + 4, .goto 410, 3)] := by unfold lw_Dec; decide +kernel
theorem lw_da37 : lw_Dec (lw_sa 1160 [1, 2]) := by unfold lw_Dec; decide +kernel
theorem lw_db37 : lw_Dec (lw_sa 1175 [1, 2]) := by unfold lw_Dec; decide +kernel
theorem lw_dc37 : lw_Dec [(1159, .aload_n 1, 1), (1170, .invokevirtual 167, 3), (1170 + 3, .pop, 1), (1170 + 4, .aload_n 2, 1), (1185, .invokevirtual 170, 3), (1185 + 3, .pop, 1), (1185 + 4, .goto 377, 3)] := by unfold lw_Dec; decide +kernel
theorem lw_da38 : lw_Dec (lw_sa 1193 [1]) := by unfold lw_Dec; decide +kernel
theorem lw_db38 : lw_Dec (lw_sa 1203 [1]) := by unfold lw_Dec; decide +kernel
theorem lw_dc38 : lw_Dec [(1192, .aload_n 1, 1), (1198, .invokevirtual 171, 3), (1198 + 3, .pop, 1), (1198 + 4, .aload_n 2, 1), (1208, .invokevirtual 174, 3), (1208 + 3, .pop, 1), (1208 + 4, .goto 354, 3)] := by unfold lw_Dec; decide +kernel
theorem lw_da39 : lw_Dec (lw_sa 1216 [1, 2]) := by unfold lw_Dec; decide +kernel
theorem lw_db39 : lw_Dec (lw_sa 1239 [1, 2]) := by unfold lw_Dec; decide +kernel
theorem lw_de39 : lw_Dec [(1216 + 10, .ifCond .eq 7, 3), (1216 + 13, .iconst 1, 1), (1216 + 14, .goto 4, 3), (1216 + 17, .iconst 0, 1)] := by unfold lw_Dec; decide +kernel
theorem lw_df39 : lw_Dec [(1239 + 10, .ifCond .eq 7, 3), (1239 + 13, .iconst 1, 1), (1239 + 14, .goto 4, 3), (1239 + 17, .iconst 0, 1)] := by unfold lw_Dec; decide +kernel
theorem lw_dc39 : lw_Dec [(1215, .aload_n 1, 1), (1234, .invokevirtual 175, 3), (1234 + 3, .pop, 1), (1234 + 4, .aload_n 2, 1), (1257, .invokevirtual 179, 3), (1257 + 3, .pop, 1), (1257 + 4, .goto 305, 3)] := by unfold lw_Dec; decide +kernel
theorem lw_da40 : lw_Dec (lw_sa 1265 [1, 2]) := by unfold lw_Dec; decide +kernel
theorem lw_db40 : lw_Dec (lw_sa 1288 [1, 2]) := by unfold lw_Dec; decide +kernel
theorem lw_de40 : lw_Dec [(1265 + 10, .ifCond .eq 7, 3), (1265 + 13, .iconst 1, 1), (1265 + 14, .goto 4, 3), (1265 + 17, .iconst 0, 1)] := by unfold lw_Dec; decide +kernel
theorem lw_df40 : lw_Dec [(1288 + 10, .ifCond .eq 7, 3), (1288 + 13, .iconst 1, 1), (1288 + 14, .goto 4, 3), (1288 + 17, .iconst 0, 1)] := by unfold lw_Dec; decide +kernel
theorem lw_dc40 : lw_Dec [(1264, .aload_n 1, 1), (1283, .invokevirtual 180, 3), (1283 + 3, .pop, 1), (1283 + 4, .aload_n 2, 1), (1306, .invokevirtual 183, 3), (1306 + 3, .pop, 1), (1306 + 4, .goto 256, 3)] := by unfold lw_Dec; decide +kernel
theorem lw_da41 : lw_Dec (lw_sa 1314 [1, 2]) := by unfold lw_Dec; decide +kernel
theorem lw_db41 : lw_Dec (lw_sa 1337 [1, 2]) := by unfold lw_Dec; decide +kernel
theorem lw_de41 : lw_Dec [(1314 + 10, .ifCond .eq 7, 3), (1314 + 13, .iconst 1, 1), (1314 + 14, .goto 4, 3), (1314 + 17, .iconst 0, 1)] := by unfold lw_Dec; decide +kernel
theorem lw_df41 : lw_Dec [(1337 + 10, .ifCond .eq 7, 3), (1337 + 13, .iconst 1, 1), (1337 + 14, .goto 4, 3), (1337 + 17, .iconst 0, 1)] := by unfold lw_Dec; decide +kernel
theorem lw_dc41 : lw_Dec [(1313, .aload_n 1, 1), (1332, .invokevirtual 184, 3), (1332 + 3, .pop, 1), (1332 + 4, .aload_n 2, 1), (1355, .invokevirtual 187, 3), (1355 + 3, .pop, 1), (1355 + 4, .goto 207, 3)] := by unfold lw_Dec; decide +kernel
theorem lw_da42 : lw_Dec (lw_sa 1363 [1]) := by unfold lw_Dec; decide +kernel
theorem lw_db42 : lw_Dec (lw_sa 1373 [1]) := by unfold lw_Dec; decide +kernel
theorem lw_dc42 : lw_Dec [(1362, .aload_n 1, 1), (1368, .invokevirtual 188, 3), (1368 + 3, .pop, 1), (1368 + 4, .aload_n 2, 1), (1378, .invokevirtual 192, 3), (1378 + 3, .pop, 1), (1378 + 4, .goto 184, 3)] := by unfold lw_Dec; decide +kernel
theorem lw_da43 : lw_Dec (lw_sa 1386 [1]) := by unfold lw_Dec; decide +kernel
theorem lw_db43 : lw_Dec (lw_sa 1395 [1]) := by unfold lw_Dec; decide +kernel
theorem lw_dc43 : lw_Dec [(1385, .aload_n 1, 1), (1391, .invokevirtual 193, 3), (1391 + 3, .aload_n 2, 1), (1400, .invokevirtual 196, 3), (1400 + 3, .if_icmp .eq 163, 3)] := by unfold lw_Dec; decide +kernel
theorem lw_da44 : lw_Dec (lw_sa 1409 [1]) := by unfold lw_Dec; decide +kernel
theorem lw_db44 : lw_Dec (lw_sa 1419 [1]) := by unfold lw_Dec; decide +kernel
theorem lw_dc44 : lw_Dec [(1408, .aload_n 1, 1), (1414, .invokevirtual 197, 3), (1414 + 3, .pop, 1), (1414 + 4, .aload_n 2, 1), (1424, .invokevirtual 200, 3), (1424 + 3, .pop, 1), (1424 + 4, .goto 138, 3)] := by unfold lw_Dec; decide +kernel
theorem lw_da45 : lw_Dec (lw_sa 1432 [1, 2]) := by unfold lw_Dec; decide +kernel
theorem lw_db45 : lw_Dec (lw_sa 1447 [1, 2]) := by unfold lw_Dec; decide +kernel
theorem lw_dc45 : lw_Dec [(1431, .aload_n 1, 1), (1442, .invokevirtual 201, 3), (1442 + 3, .pop, 1), (1442 + 4, .aload_n 2, 1), (1457, .invokevirtual 204, 3), (1457 + 3, .pop, 1), (1457 + 4, .goto 105, 3)] := by unfold lw_Dec; decide +kernel
theorem lw_da46 : lw_Dec (lw_sa 1465 [1, 2]) := by unfold lw_Dec; decide +kernel
theorem lw_db46 : lw_Dec (lw_sa 1480 [1, 2]) := by unfold lw_Dec; decide +kernel
theorem lw_dc46 : lw_Dec [(1464, .aload_n 1, 1), (1475, .invokevirtual 205, 3), (1475 + 3, .pop, 1), (1475 + 4, .aload_n 2, 1), (1490, .invokevirtual 208, 3), (1490 + 3, .pop, 1), (1490 + 4, .goto 72, 3)] := by unfold lw_Dec; decide +kernel
theorem lw_da47 : lw_Dec (lw_sa 1498 [1]) := by unfold lw_Dec; decide +kernel
theorem lw_db47 : lw_Dec (lw_sa 1508 [1]) := by unfold lw_Dec; decide +kernel
theorem lw_dc47 : lw_Dec [(1497, .aload_n 1, 1), (1503, .invokevirtual 209, 3), (1503 + 3, .pop, 1), (1503 + 4, .aload_n 2, 1), (1513, .invokevirtual 212, 3), (1513 + 3, .pop, 1), (1513 + 4, .goto 49, 3)] := by unfold lw_Dec; decide +kernel
theorem lw_da48 : lw_Dec (lw_sa 1521 [1]) := by unfold lw_Dec; decide +kernel
theorem lw_db48 : lw_Dec (lw_sa 1531 [1]) := by unfold lw_Dec; decide +kernel
theorem lw_dc48 : lw_Dec [(1520, .aload_n 1, 1), (1526, .invokevirtual 213, 3), (1526 + 3, .pop, 1), (1526 + 4, .aload_n 2, 1), (1536, .invokevirtual 216, 3), (1536 + 3, .pop, 1), (1536 + 4, .goto 26, 3)] := by unfold lw_Dec; decide +kernel
theorem lw_da49 : lw_Dec (lw_sa 1544 [1]) := by unfold lw_Dec; decide +kernel
theorem lw_db49 : lw_Dec (lw_sa 1554 [1]) := by unfold lw_Dec; decide +kernel
theorem lw_dc49 : lw_Dec [(1543, .aload_n 1, 1), (1549, .invokevirtual 217, 3), (1549 + 3, .pop, 1), (1549 + 4, .aload_n 2, 1), (1559, .invokevirtual 220, 3), (1559 + 3, .pop, 1), (1559 + 4, .goto 3, 3)] := by unfold lw_Dec; decide +kernel
