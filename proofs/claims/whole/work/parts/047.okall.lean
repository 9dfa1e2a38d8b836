/-! ALL ENTRIES ARE CHECKED -/
theorem chk_td {t : MT} {lk : List (Nat × Nat × Nat × Nat)} {cdl l : List PEn} {n k : Nat} (hk : k ≤ l.length) (h1 : chkS t lk cdl n (l.take k) = true) (h2 : chkS t lk cdl (n + k) (l.drop k) = true) : chkS t lk cdl n l = true := by
  rw [← List.take_append_drop k l]
  refine chkS_app _ _ _ h1 ?_
  rw [List.length_take, Nat.min_eq_left hk]
  exact h2
theorem ckL_0 : chkS (mt 284) lks_14 cd_284 0 cd_284_0 = true := by
  refine chk_td (k := 50) (by decide +kernel) (by have := ckL_0_0; rwa [List.drop_zero] at this) ?_
  refine chk_td (k := 50) (by decide +kernel) ckL_0_1 ?_
  rw [List.drop_drop]
  refine chk_td (k := 50) (by decide +kernel) ckL_0_2 ?_
  rw [List.drop_drop]
  have h := ckL_0_3
  rw [List.take_of_length_le (by decide +kernel)] at h
  skip
  exact h
theorem ckL_1 : chkS (mt 284) lks_14 cd_284 200 cd_284_1 = true := by
  refine chk_td (k := 50) (by decide +kernel) (by have := ckL_1_0; rwa [List.drop_zero] at this) ?_
  refine chk_td (k := 50) (by decide +kernel) ckL_1_1 ?_
  rw [List.drop_drop]
  refine chk_td (k := 50) (by decide +kernel) ckL_1_2 ?_
  rw [List.drop_drop]
  have h := ckL_1_3
  rw [List.take_of_length_le (by decide +kernel)] at h
  skip
  exact h
theorem ckL_2 : chkS (mt 284) lks_14 cd_284 400 cd_284_2 = true := by
  refine chk_td (k := 50) (by decide +kernel) (by have := ckL_2_0; rwa [List.drop_zero] at this) ?_
  refine chk_td (k := 50) (by decide +kernel) ckL_2_1 ?_
  rw [List.drop_drop]
  refine chk_td (k := 50) (by decide +kernel) ckL_2_2 ?_
  rw [List.drop_drop]
  have h := ckL_2_3
  rw [List.take_of_length_le (by decide +kernel)] at h
  skip
  exact h
theorem ckL_3 : chkS (mt 284) lks_14 cd_284 600 cd_284_3 = true := by
  refine chk_td (k := 50) (by decide +kernel) (by have := ckL_3_0; rwa [List.drop_zero] at this) ?_
  refine chk_td (k := 50) (by decide +kernel) ckL_3_1 ?_
  rw [List.drop_drop]
  refine chk_td (k := 50) (by decide +kernel) ckL_3_2 ?_
  rw [List.drop_drop]
  have h := ckL_3_3
  rw [List.take_of_length_le (by decide +kernel)] at h
  skip
  exact h
theorem ckL_4 : chkS (mt 284) lks_14 cd_284 800 cd_284_4 = true := by
  refine chk_td (k := 50) (by decide +kernel) (by have := ckL_4_0; rwa [List.drop_zero] at this) ?_
  refine chk_td (k := 50) (by decide +kernel) ckL_4_1 ?_
  rw [List.drop_drop]
  refine chk_td (k := 50) (by decide +kernel) ckL_4_2 ?_
  rw [List.drop_drop]
  have h := ckL_4_3
  rw [List.take_of_length_le (by decide +kernel)] at h
  skip
  exact h
theorem ckL_5 : chkS (mt 284) lks_14 cd_284 1000 cd_284_5 = true := by
  refine chk_td (k := 50) (by decide +kernel) (by have := ckL_5_0; rwa [List.drop_zero] at this) ?_
  refine chk_td (k := 50) (by decide +kernel) ckL_5_1 ?_
  rw [List.drop_drop]
  refine chk_td (k := 50) (by decide +kernel) ckL_5_2 ?_
  rw [List.drop_drop]
  have h := ckL_5_3
  rw [List.take_of_length_le (by decide +kernel)] at h
  skip
  exact h
theorem ckL_6 : chkS (mt 284) lks_14 cd_284 1200 cd_284_6 = true := by
  refine chk_td (k := 50) (by decide +kernel) (by have := ckL_6_0; rwa [List.drop_zero] at this) ?_
  have h := ckL_6_1
  rw [List.take_of_length_le (by decide +kernel)] at h
  skip
  exact h
theorem ck_284 : chkS (mt 284) lks_14 cd_284 0 cd_284 = true := by
  show chkS _ _ _ 0 (cd_284_0 ++ (cd_284_1 ++ (cd_284_2 ++ (cd_284_3 ++ (cd_284_4 ++ (cd_284_5 ++ (cd_284_6))))))) = true
  refine chkS_app _ _ _ ckL_0 ?_
  rw [show 0 + cd_284_0.length = 200 by decide +kernel]
  refine chkS_app _ _ _ ckL_1 ?_
  rw [show 200 + cd_284_1.length = 400 by decide +kernel]
  refine chkS_app _ _ _ ckL_2 ?_
  rw [show 400 + cd_284_2.length = 600 by decide +kernel]
  refine chkS_app _ _ _ ckL_3 ?_
  rw [show 600 + cd_284_3.length = 800 by decide +kernel]
  refine chkS_app _ _ _ ckL_4 ?_
  rw [show 800 + cd_284_4.length = 1000 by decide +kernel]
  refine chkS_app _ _ _ ckL_5 ?_
  rw [show 1000 + cd_284_5.length = 1200 by decide +kernel]
  exact ckL_6
theorem ok_all : ∀ k, k < 285 → okM (mt k) (lks (mO k)) (cds k) := by
  intro k hk
  match k, hk with
  | 0, _ => exact okM_of ck_0
  | 1, _ => exact okM_of ck_1
  | 2, _ => exact okM_of ck_2
  | 3, _ => exact okM_of ck_3
  | 4, _ => exact okM_of ck_4
  | 5, _ => exact okM_of ck_5
  | 6, _ => exact okM_of ck_6
  | 7, _ => exact okM_of ck_7
  | 8, _ => exact okM_of ck_8
  | 9, _ => exact okM_of ck_9
  | 10, _ => exact okM_of ck_10
  | 11, _ => exact okM_of ck_11
  | 12, _ => exact okM_of ck_12
  | 13, _ => exact okM_of ck_13
  | 14, _ => exact okM_of ck_14
  | 15, _ => exact okM_of ck_15
  | 16, _ => exact okM_of ck_16
  | 17, _ => exact okM_of ck_17
  | 18, _ => exact okM_of ck_18
  | 19, _ => exact okM_of ck_19
  | 20, _ => exact okM_of ck_20
  | 21, _ => exact okM_of ck_21
  | 22, _ => exact okM_of ck_22
  | 23, _ => exact okM_of ck_23
  | 24, _ => exact okM_of ck_24
  | 25, _ => exact okM_of ck_25
  | 26, _ => exact okM_of ck_26
  | 27, _ => exact okM_of ck_27
  | 28, _ => exact okM_of ck_28
  | 29, _ => exact okM_of ck_29
  | 30, _ => exact okM_of ck_30
  | 31, _ => exact okM_of ck_31
  | 32, _ => exact okM_of ck_32
  | 33, _ => exact okM_of ck_33
  | 34, _ => exact okM_of ck_34
  | 35, _ => exact okM_of ck_35
  | 36, _ => exact okM_of ck_36
  | 37, _ => exact okM_of ck_37
  | 38, _ => exact okM_of ck_38
  | 39, _ => exact okM_of ck_39
  | 40, _ => exact okM_of ck_40
  | 41, _ => exact okM_of ck_41
  | 42, _ => exact okM_of ck_42
  | 43, _ => exact okM_of ck_43
  | 44, _ => exact okM_of ck_44
  | 45, _ => exact okM_of ck_45
  | 46, _ => exact okM_of ck_46
  | 47, _ => exact okM_of ck_47
  | 48, _ => exact okM_of ck_48
  | 49, _ => exact okM_of ck_49
  | 50, _ => exact okM_of ck_50
  | 51, _ => exact okM_of ck_51
  | 52, _ => exact okM_of ck_52
  | 53, _ => exact okM_of ck_53
  | 54, _ => exact okM_of ck_54
  | 55, _ => exact okM_of ck_55
  | 56, _ => exact okM_of ck_56
  | 57, _ => exact okM_of ck_57
  | 58, _ => exact okM_of ck_58
  | 59, _ => exact okM_of ck_59
  | 60, _ => exact okM_of ck_60
  | 61, _ => exact okM_of ck_61
  | 62, _ => exact okM_of ck_62
  | 63, _ => exact okM_of ck_63
  | 64, _ => exact okM_of ck_64
  | 65, _ => exact okM_of ck_65
  | 66, _ => exact okM_of ck_66
  | 67, _ => exact okM_of ck_67
  | 68, _ => exact okM_of ck_68
  | 69, _ => exact okM_of ck_69
  | 70, _ => exact okM_of ck_70
  | 71, _ => exact okM_of ck_71
  | 72, _ => exact okM_of ck_72
  | 73, _ => exact okM_of ck_73
  | 74, _ => exact okM_of ck_74
  | 75, _ => exact okM_of ck_75
  | 76, _ => exact okM_of ck_76
  | 77, _ => exact okM_of ck_77
  | 78, _ => exact okM_of ck_78
  | 79, _ => exact okM_of ck_79
  | 80, _ => exact okM_of ck_80
  | 81, _ => exact okM_of ck_81
  | 82, _ => exact okM_of ck_82
  | 83, _ => exact okM_of ck_83
  | 84, _ => exact okM_of ck_84
  | 85, _ => exact okM_of ck_85
  | 86, _ => exact okM_of ck_86
  | 87, _ => exact okM_of ck_87
  | 88, _ => exact okM_of ck_88
  | 89, _ => exact okM_of ck_89
  | 90, _ => exact okM_of ck_90
  | 91, _ => exact okM_of ck_91
  | 92, _ => exact okM_of ck_92
  | 93, _ => exact okM_of ck_93
  | 94, _ => exact okM_of ck_94
  | 95, _ => exact okM_of ck_95
  | 96, _ => exact okM_of ck_96
  | 97, _ => exact okM_of ck_97
  | 98, _ => exact okM_of ck_98
  | 99, _ => exact okM_of ck_99
  | 100, _ => exact okM_of ck_100
  | 101, _ => exact okM_of ck_101
  | 102, _ => exact okM_of ck_102
  | 103, _ => exact okM_of ck_103
  | 104, _ => exact okM_of ck_104
  | 105, _ => exact okM_of ck_105
  | 106, _ => exact okM_of ck_106
  | 107, _ => exact okM_of ck_107
  | 108, _ => exact okM_of ck_108
  | 109, _ => exact okM_of ck_109
  | 110, _ => exact okM_of ck_110
  | 111, _ => exact okM_of ck_111
  | 112, _ => exact okM_of ck_112
  | 113, _ => exact okM_of ck_113
  | 114, _ => exact okM_of ck_114
  | 115, _ => exact okM_of ck_115
  | 116, _ => exact okM_of ck_116
  | 117, _ => exact okM_of ck_117
  | 118, _ => exact okM_of ck_118
  | 119, _ => exact okM_of ck_119
  | 120, _ => exact okM_of ck_120
  | 121, _ => exact okM_of ck_121
  | 122, _ => exact okM_of ck_122
  | 123, _ => exact okM_of ck_123
  | 124, _ => exact okM_of ck_124
  | 125, _ => exact okM_of ck_125
  | 126, _ => exact okM_of ck_126
  | 127, _ => exact okM_of ck_127
  | 128, _ => exact okM_of ck_128
  | 129, _ => exact okM_of ck_129
  | 130, _ => exact okM_of ck_130
  | 131, _ => exact okM_of ck_131
  | 132, _ => exact okM_of ck_132
  | 133, _ => exact okM_of ck_133
  | 134, _ => exact okM_of ck_134
  | 135, _ => exact okM_of ck_135
  | 136, _ => exact okM_of ck_136
  | 137, _ => exact okM_of ck_137
  | 138, _ => exact okM_of ck_138
  | 139, _ => exact okM_of ck_139
  | 140, _ => exact okM_of ck_140
  | 141, _ => exact okM_of ck_141
  | 142, _ => exact okM_of ck_142
  | 143, _ => exact okM_of ck_143
  | 144, _ => exact okM_of ck_144
  | 145, _ => exact okM_of ck_145
  | 146, _ => exact okM_of ck_146
  | 147, _ => exact okM_of ck_147
  | 148, _ => exact okM_of ck_148
  | 149, _ => exact okM_of ck_149
  | 150, _ => exact okM_of ck_150
  | 151, _ => exact okM_of ck_151
  | 152, _ => exact okM_of ck_152
  | 153, _ => exact okM_of ck_153
  | 154, _ => exact okM_of ck_154
  | 155, _ => exact okM_of ck_155
  | 156, _ => exact okM_of ck_156
  | 157, _ => exact okM_of ck_157
  | 158, _ => exact okM_of ck_158
  | 159, _ => exact okM_of ck_159
  | 160, _ => exact okM_of ck_160
  | 161, _ => exact okM_of ck_161
  | 162, _ => exact okM_of ck_162
  | 163, _ => exact okM_of ck_163
  | 164, _ => exact okM_of ck_164
  | 165, _ => exact okM_of ck_165
  | 166, _ => exact okM_of ck_166
  | 167, _ => exact okM_of ck_167
  | 168, _ => exact okM_of ck_168
  | 169, _ => exact okM_of ck_169
  | 170, _ => exact okM_of ck_170
  | 171, _ => exact okM_of ck_171
  | 172, _ => exact okM_of ck_172
  | 173, _ => exact okM_of ck_173
  | 174, _ => exact okM_of ck_174
  | 175, _ => exact okM_of ck_175
  | 176, _ => exact okM_of ck_176
  | 177, _ => exact okM_of ck_177
  | 178, _ => exact okM_of ck_178
  | 179, _ => exact okM_of ck_179
  | 180, _ => exact okM_of ck_180
  | 181, _ => exact okM_of ck_181
  | 182, _ => exact okM_of ck_182
  | 183, _ => exact okM_of ck_183
  | 184, _ => exact okM_of ck_184
  | 185, _ => exact okM_of ck_185
  | 186, _ => exact okM_of ck_186
  | 187, _ => exact okM_of ck_187
  | 188, _ => exact okM_of ck_188
  | 189, _ => exact okM_of ck_189
  | 190, _ => exact okM_of ck_190
  | 191, _ => exact okM_of ck_191
  | 192, _ => exact okM_of ck_192
  | 193, _ => exact okM_of ck_193
  | 194, _ => exact okM_of ck_194
  | 195, _ => exact okM_of ck_195
  | 196, _ => exact okM_of ck_196
  | 197, _ => exact okM_of ck_197
  | 198, _ => exact okM_of ck_198
  | 199, _ => exact okM_of ck_199
  | 200, _ => exact okM_of ck_200
  | 201, _ => exact okM_of ck_201
  | 202, _ => exact okM_of ck_202
  | 203, _ => exact okM_of ck_203
  | 204, _ => exact okM_of ck_204
  | 205, _ => exact okM_of ck_205
  | 206, _ => exact okM_of ck_206
  | 207, _ => exact okM_of ck_207
  | 208, _ => exact okM_of ck_208
  | 209, _ => exact okM_of ck_209
  | 210, _ => exact okM_of ck_210
  | 211, _ => exact okM_of ck_211
  | 212, _ => exact okM_of ck_212
  | 213, _ => exact okM_of ck_213
  | 214, _ => exact okM_of ck_214
  | 215, _ => exact okM_of ck_215
  | 216, _ => exact okM_of ck_216
  | 217, _ => exact okM_of ck_217
  | 218, _ => exact okM_of ck_218
  | 219, _ => exact okM_of ck_219
  | 220, _ => exact okM_of ck_220
  | 221, _ => exact okM_of ck_221
  | 222, _ => exact okM_of ck_222
  | 223, _ => exact okM_of ck_223
  | 224, _ => exact okM_of ck_224
  | 225, _ => exact okM_of ck_225
  | 226, _ => exact okM_of ck_226
  | 227, _ => exact okM_of ck_227
  | 228, _ => exact okM_of ck_228
  | 229, _ => exact okM_of ck_229
  | 230, _ => exact okM_of ck_230
  | 231, _ => exact okM_of ck_231
  | 232, _ => exact okM_of ck_232
  | 233, _ => exact okM_of ck_233
  | 234, _ => exact okM_of ck_234
  | 235, _ => exact okM_of ck_235
  | 236, _ => exact okM_of ck_236
  | 237, _ => exact okM_of ck_237
  | 238, _ => exact okM_of ck_238
  | 239, _ => exact okM_of ck_239
  | 240, _ => exact okM_of ck_240
  | 241, _ => exact okM_of ck_241
  | 242, _ => exact okM_of ck_242
  | 243, _ => exact okM_of ck_243
  | 244, _ => exact okM_of ck_244
  | 245, _ => exact okM_of ck_245
  | 246, _ => exact okM_of ck_246
  | 247, _ => exact okM_of ck_247
  | 248, _ => exact okM_of ck_248
  | 249, _ => exact okM_of ck_249
  | 250, _ => exact okM_of ck_250
  | 251, _ => exact okM_of ck_251
  | 252, _ => exact okM_of ck_252
  | 253, _ => exact okM_of ck_253
  | 254, _ => exact okM_of ck_254
  | 255, _ => exact okM_of ck_255
  | 256, _ => exact okM_of ck_256
  | 257, _ => exact okM_of ck_257
  | 258, _ => exact okM_of ck_258
  | 259, _ => exact okM_of ck_259
  | 260, _ => exact okM_of ck_260
  | 261, _ => exact okM_of ck_261
  | 262, _ => exact okM_of ck_262
  | 263, _ => exact okM_of ck_263
  | 264, _ => exact okM_of ck_264
  | 265, _ => exact okM_of ck_265
  | 266, _ => exact okM_of ck_266
  | 267, _ => exact okM_of ck_267
  | 268, _ => exact okM_of ck_268
  | 269, _ => exact okM_of ck_269
  | 270, _ => exact okM_of ck_270
  | 271, _ => exact okM_of ck_271
  | 272, _ => exact okM_of ck_272
  | 273, _ => exact okM_of ck_273
  | 274, _ => exact okM_of ck_274
  | 275, _ => exact okM_of ck_275
  | 276, _ => exact okM_of ck_276
  | 277, _ => exact okM_of ck_277
  | 278, _ => exact okM_of ck_278
  | 279, _ => exact okM_of ck_279
  | 280, _ => exact okM_of ck_280
  | 281, _ => exact okM_of ck_281
  | 282, _ => exact okM_of ck_282
  | 283, _ => exact okM_of ck_283
  | 284, _ => exact okM_of ck_284
  | n + 285, h => exact absurd h (by omega)
