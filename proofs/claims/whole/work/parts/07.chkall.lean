/-! ===== all of them ===== -/
theorem ckg_0 (M : Nat) (h1 : 0 ≤ M) (h2 : M < 8) : chkM M = true := by
  rcases (show M = 0 ∨ M = 1 ∨ M = 2 ∨ M = 3 ∨ M = 4 ∨ M = 5 ∨ M = 6 ∨ M = 7 by omega) with rfl | rfl | rfl | rfl | rfl | rfl | rfl | rfl
  · exact ck_0
  · exact ck_1
  · exact ck_2
  · exact ck_3
  · exact ck_4
  · exact ck_5
  · exact ck_6
  · exact ck_7
theorem ckg_1 (M : Nat) (h1 : 8 ≤ M) (h2 : M < 16) : chkM M = true := by
  rcases (show M = 8 ∨ M = 9 ∨ M = 10 ∨ M = 11 ∨ M = 12 ∨ M = 13 ∨ M = 14 ∨ M = 15 by omega) with rfl | rfl | rfl | rfl | rfl | rfl | rfl | rfl
  · exact ck_8
  · exact ck_9
  · exact ck_10
  · exact ck_11
  · exact ck_12
  · exact ck_13
  · exact ck_14
  · exact ck_15
theorem ckg_2 (M : Nat) (h1 : 16 ≤ M) (h2 : M < 24) : chkM M = true := by
  rcases (show M = 16 ∨ M = 17 ∨ M = 18 ∨ M = 19 ∨ M = 20 ∨ M = 21 ∨ M = 22 ∨ M = 23 by omega) with rfl | rfl | rfl | rfl | rfl | rfl | rfl | rfl
  · exact ck_16
  · exact ck_17
  · exact ck_18
  · exact ck_19
  · exact ck_20
  · exact ck_21
  · exact ck_22
  · exact ck_23
theorem ckg_3 (M : Nat) (h1 : 24 ≤ M) (h2 : M < 32) : chkM M = true := by
  rcases (show M = 24 ∨ M = 25 ∨ M = 26 ∨ M = 27 ∨ M = 28 ∨ M = 29 ∨ M = 30 ∨ M = 31 by omega) with rfl | rfl | rfl | rfl | rfl | rfl | rfl | rfl
  · exact ck_24
  · exact ck_25
  · exact ck_26
  · exact ck_27
  · exact ck_28
  · exact ck_29
  · exact ck_30
  · exact ck_31
theorem ckg_4 (M : Nat) (h1 : 32 ≤ M) (h2 : M < 40) : chkM M = true := by
  rcases (show M = 32 ∨ M = 33 ∨ M = 34 ∨ M = 35 ∨ M = 36 ∨ M = 37 ∨ M = 38 ∨ M = 39 by omega) with rfl | rfl | rfl | rfl | rfl | rfl | rfl | rfl
  · exact ck_32
  · exact ck_33
  · exact ck_34
  · exact ck_35
  · exact ck_36
  · exact ck_37
  · exact ck_38
  · exact ck_39
theorem ckg_5 (M : Nat) (h1 : 40 ≤ M) (h2 : M < 48) : chkM M = true := by
  rcases (show M = 40 ∨ M = 41 ∨ M = 42 ∨ M = 43 ∨ M = 44 ∨ M = 45 ∨ M = 46 ∨ M = 47 by omega) with rfl | rfl | rfl | rfl | rfl | rfl | rfl | rfl
  · exact ck_40
  · exact ck_41
  · exact ck_42
  · exact ck_43
  · exact ck_44
  · exact ck_45
  · exact ck_46
  · exact ck_47
theorem ckg_6 (M : Nat) (h1 : 48 ≤ M) (h2 : M < 56) : chkM M = true := by
  rcases (show M = 48 ∨ M = 49 ∨ M = 50 ∨ M = 51 ∨ M = 52 ∨ M = 53 ∨ M = 54 ∨ M = 55 by omega) with rfl | rfl | rfl | rfl | rfl | rfl | rfl | rfl
  · exact ck_48
  · exact ck_49
  · exact ck_50
  · exact ck_51
  · exact ck_52
  · exact ck_53
  · exact ck_54
  · exact ck_55
theorem ckg_7 (M : Nat) (h1 : 56 ≤ M) (h2 : M < 64) : chkM M = true := by
  rcases (show M = 56 ∨ M = 57 ∨ M = 58 ∨ M = 59 ∨ M = 60 ∨ M = 61 ∨ M = 62 ∨ M = 63 by omega) with rfl | rfl | rfl | rfl | rfl | rfl | rfl | rfl
  · exact ck_56
  · exact ck_57
  · exact ck_58
  · exact ck_59
  · exact ck_60
  · exact ck_61
  · exact ck_62
  · exact ck_63
theorem ckg_8 (M : Nat) (h1 : 64 ≤ M) (h2 : M < 72) : chkM M = true := by
  rcases (show M = 64 ∨ M = 65 ∨ M = 66 ∨ M = 67 ∨ M = 68 ∨ M = 69 ∨ M = 70 ∨ M = 71 by omega) with rfl | rfl | rfl | rfl | rfl | rfl | rfl | rfl
  · exact ck_64
  · exact ck_65
  · exact ck_66
  · exact ck_67
  · exact ck_68
  · exact ck_69
  · exact ck_70
  · exact ck_71
theorem ckg_9 (M : Nat) (h1 : 72 ≤ M) (h2 : M < 80) : chkM M = true := by
  rcases (show M = 72 ∨ M = 73 ∨ M = 74 ∨ M = 75 ∨ M = 76 ∨ M = 77 ∨ M = 78 ∨ M = 79 by omega) with rfl | rfl | rfl | rfl | rfl | rfl | rfl | rfl
  · exact ck_72
  · exact ck_73
  · exact ck_74
  · exact ck_75
  · exact ck_76
  · exact ck_77
  · exact ck_78
  · exact ck_79
theorem ckg_10 (M : Nat) (h1 : 80 ≤ M) (h2 : M < 88) : chkM M = true := by
  rcases (show M = 80 ∨ M = 81 ∨ M = 82 ∨ M = 83 ∨ M = 84 ∨ M = 85 ∨ M = 86 ∨ M = 87 by omega) with rfl | rfl | rfl | rfl | rfl | rfl | rfl | rfl
  · exact ck_80
  · exact ck_81
  · exact ck_82
  · exact ck_83
  · exact ck_84
  · exact ck_85
  · exact ck_86
  · exact ck_87
theorem ckg_11 (M : Nat) (h1 : 88 ≤ M) (h2 : M < 96) : chkM M = true := by
  rcases (show M = 88 ∨ M = 89 ∨ M = 90 ∨ M = 91 ∨ M = 92 ∨ M = 93 ∨ M = 94 ∨ M = 95 by omega) with rfl | rfl | rfl | rfl | rfl | rfl | rfl | rfl
  · exact ck_88
  · exact ck_89
  · exact ck_90
  · exact ck_91
  · exact ck_92
  · exact ck_93
  · exact ck_94
  · exact ck_95
theorem ckg_12 (M : Nat) (h1 : 96 ≤ M) (h2 : M < 104) : chkM M = true := by
  rcases (show M = 96 ∨ M = 97 ∨ M = 98 ∨ M = 99 ∨ M = 100 ∨ M = 101 ∨ M = 102 ∨ M = 103 by omega) with rfl | rfl | rfl | rfl | rfl | rfl | rfl | rfl
  · exact ck_96
  · exact ck_97
  · exact ck_98
  · exact ck_99
  · exact ck_100
  · exact ck_101
  · exact ck_102
  · exact ck_103
theorem ckg_13 (M : Nat) (h1 : 104 ≤ M) (h2 : M < 112) : chkM M = true := by
  rcases (show M = 104 ∨ M = 105 ∨ M = 106 ∨ M = 107 ∨ M = 108 ∨ M = 109 ∨ M = 110 ∨ M = 111 by omega) with rfl | rfl | rfl | rfl | rfl | rfl | rfl | rfl
  · exact ck_104
  · exact ck_105
  · exact ck_106
  · exact ck_107
  · exact ck_108
  · exact ck_109
  · exact ck_110
  · exact ck_111
theorem ckg_14 (M : Nat) (h1 : 112 ≤ M) (h2 : M < 120) : chkM M = true := by
  rcases (show M = 112 ∨ M = 113 ∨ M = 114 ∨ M = 115 ∨ M = 116 ∨ M = 117 ∨ M = 118 ∨ M = 119 by omega) with rfl | rfl | rfl | rfl | rfl | rfl | rfl | rfl
  · exact ck_112
  · exact ck_113
  · exact ck_114
  · exact ck_115
  · exact ck_116
  · exact ck_117
  · exact ck_118
  · exact ck_119
theorem ckg_15 (M : Nat) (h1 : 120 ≤ M) (h2 : M < 128) : chkM M = true := by
  rcases (show M = 120 ∨ M = 121 ∨ M = 122 ∨ M = 123 ∨ M = 124 ∨ M = 125 ∨ M = 126 ∨ M = 127 by omega) with rfl | rfl | rfl | rfl | rfl | rfl | rfl | rfl
  · exact ck_120
  · exact ck_121
  · exact ck_122
  · exact ck_123
  · exact ck_124
  · exact ck_125
  · exact ck_126
  · exact ck_127
theorem ckg_16 (M : Nat) (h1 : 128 ≤ M) (h2 : M < 136) : chkM M = true := by
  rcases (show M = 128 ∨ M = 129 ∨ M = 130 ∨ M = 131 ∨ M = 132 ∨ M = 133 ∨ M = 134 ∨ M = 135 by omega) with rfl | rfl | rfl | rfl | rfl | rfl | rfl | rfl
  · exact ck_128
  · exact ck_129
  · exact ck_130
  · exact ck_131
  · exact ck_132
  · exact ck_133
  · exact ck_134
  · exact ck_135
theorem ckg_17 (M : Nat) (h1 : 136 ≤ M) (h2 : M < 144) : chkM M = true := by
  rcases (show M = 136 ∨ M = 137 ∨ M = 138 ∨ M = 139 ∨ M = 140 ∨ M = 141 ∨ M = 142 ∨ M = 143 by omega) with rfl | rfl | rfl | rfl | rfl | rfl | rfl | rfl
  · exact ck_136
  · exact ck_137
  · exact ck_138
  · exact ck_139
  · exact ck_140
  · exact ck_141
  · exact ck_142
  · exact ck_143
theorem ckg_18 (M : Nat) (h1 : 144 ≤ M) (h2 : M < 152) : chkM M = true := by
  rcases (show M = 144 ∨ M = 145 ∨ M = 146 ∨ M = 147 ∨ M = 148 ∨ M = 149 ∨ M = 150 ∨ M = 151 by omega) with rfl | rfl | rfl | rfl | rfl | rfl | rfl | rfl
  · exact ck_144
  · exact ck_145
  · exact ck_146
  · exact ck_147
  · exact ck_148
  · exact ck_149
  · exact ck_150
  · exact ck_151
theorem ckg_19 (M : Nat) (h1 : 152 ≤ M) (h2 : M < 160) : chkM M = true := by
  rcases (show M = 152 ∨ M = 153 ∨ M = 154 ∨ M = 155 ∨ M = 156 ∨ M = 157 ∨ M = 158 ∨ M = 159 by omega) with rfl | rfl | rfl | rfl | rfl | rfl | rfl | rfl
  · exact ck_152
  · exact ck_153
  · exact ck_154
  · exact ck_155
  · exact ck_156
  · exact ck_157
  · exact ck_158
  · exact ck_159
theorem ckg_20 (M : Nat) (h1 : 160 ≤ M) (h2 : M < 168) : chkM M = true := by
  rcases (show M = 160 ∨ M = 161 ∨ M = 162 ∨ M = 163 ∨ M = 164 ∨ M = 165 ∨ M = 166 ∨ M = 167 by omega) with rfl | rfl | rfl | rfl | rfl | rfl | rfl | rfl
  · exact ck_160
  · exact ck_161
  · exact ck_162
  · exact ck_163
  · exact ck_164
  · exact ck_165
  · exact ck_166
  · exact ck_167
theorem ckg_21 (M : Nat) (h1 : 168 ≤ M) (h2 : M < 176) : chkM M = true := by
  rcases (show M = 168 ∨ M = 169 ∨ M = 170 ∨ M = 171 ∨ M = 172 ∨ M = 173 ∨ M = 174 ∨ M = 175 by omega) with rfl | rfl | rfl | rfl | rfl | rfl | rfl | rfl
  · exact ck_168
  · exact ck_169
  · exact ck_170
  · exact ck_171
  · exact ck_172
  · exact ck_173
  · exact ck_174
  · exact ck_175
theorem ckg_22 (M : Nat) (h1 : 176 ≤ M) (h2 : M < 184) : chkM M = true := by
  rcases (show M = 176 ∨ M = 177 ∨ M = 178 ∨ M = 179 ∨ M = 180 ∨ M = 181 ∨ M = 182 ∨ M = 183 by omega) with rfl | rfl | rfl | rfl | rfl | rfl | rfl | rfl
  · exact ck_176
  · exact ck_177
  · exact ck_178
  · exact ck_179
  · exact ck_180
  · exact ck_181
  · exact ck_182
  · exact ck_183
theorem ckg_23 (M : Nat) (h1 : 184 ≤ M) (h2 : M < 192) : chkM M = true := by
  rcases (show M = 184 ∨ M = 185 ∨ M = 186 ∨ M = 187 ∨ M = 188 ∨ M = 189 ∨ M = 190 ∨ M = 191 by omega) with rfl | rfl | rfl | rfl | rfl | rfl | rfl | rfl
  · exact ck_184
  · exact ck_185
  · exact ck_186
  · exact ck_187
  · exact ck_188
  · exact ck_189
  · exact ck_190
  · exact ck_191
theorem ckg_24 (M : Nat) (h1 : 192 ≤ M) (h2 : M < 200) : chkM M = true := by
  rcases (show M = 192 ∨ M = 193 ∨ M = 194 ∨ M = 195 ∨ M = 196 ∨ M = 197 ∨ M = 198 ∨ M = 199 by omega) with rfl | rfl | rfl | rfl | rfl | rfl | rfl | rfl
  · exact ck_192
  · exact ck_193
  · exact ck_194
  · exact ck_195
  · exact ck_196
  · exact ck_197
  · exact ck_198
  · exact ck_199
theorem ckg_25 (M : Nat) (h1 : 200 ≤ M) (h2 : M < 208) : chkM M = true := by
  rcases (show M = 200 ∨ M = 201 ∨ M = 202 ∨ M = 203 ∨ M = 204 ∨ M = 205 ∨ M = 206 ∨ M = 207 by omega) with rfl | rfl | rfl | rfl | rfl | rfl | rfl | rfl
  · exact ck_200
  · exact ck_201
  · exact ck_202
  · exact ck_203
  · exact ck_204
  · exact ck_205
  · exact ck_206
  · exact ck_207
theorem ckg_26 (M : Nat) (h1 : 208 ≤ M) (h2 : M < 216) : chkM M = true := by
  rcases (show M = 208 ∨ M = 209 ∨ M = 210 ∨ M = 211 ∨ M = 212 ∨ M = 213 ∨ M = 214 ∨ M = 215 by omega) with rfl | rfl | rfl | rfl | rfl | rfl | rfl | rfl
  · exact ck_208
  · exact ck_209
  · exact ck_210
  · exact ck_211
  · exact ck_212
  · exact ck_213
  · exact ck_214
  · exact ck_215
theorem ckg_27 (M : Nat) (h1 : 216 ≤ M) (h2 : M < 224) : chkM M = true := by
  rcases (show M = 216 ∨ M = 217 ∨ M = 218 ∨ M = 219 ∨ M = 220 ∨ M = 221 ∨ M = 222 ∨ M = 223 by omega) with rfl | rfl | rfl | rfl | rfl | rfl | rfl | rfl
  · exact ck_216
  · exact ck_217
  · exact ck_218
  · exact ck_219
  · exact ck_220
  · exact ck_221
  · exact ck_222
  · exact ck_223
theorem ckg_28 (M : Nat) (h1 : 224 ≤ M) (h2 : M < 232) : chkM M = true := by
  rcases (show M = 224 ∨ M = 225 ∨ M = 226 ∨ M = 227 ∨ M = 228 ∨ M = 229 ∨ M = 230 ∨ M = 231 by omega) with rfl | rfl | rfl | rfl | rfl | rfl | rfl | rfl
  · exact ck_224
  · exact ck_225
  · exact ck_226
  · exact ck_227
  · exact ck_228
  · exact ck_229
  · exact ck_230
  · exact ck_231
theorem ckg_29 (M : Nat) (h1 : 232 ≤ M) (h2 : M < 240) : chkM M = true := by
  rcases (show M = 232 ∨ M = 233 ∨ M = 234 ∨ M = 235 ∨ M = 236 ∨ M = 237 ∨ M = 238 ∨ M = 239 by omega) with rfl | rfl | rfl | rfl | rfl | rfl | rfl | rfl
  · exact ck_232
  · exact ck_233
  · exact ck_234
  · exact ck_235
  · exact ck_236
  · exact ck_237
  · exact ck_238
  · exact ck_239
theorem ckg_30 (M : Nat) (h1 : 240 ≤ M) (h2 : M < 248) : chkM M = true := by
  rcases (show M = 240 ∨ M = 241 ∨ M = 242 ∨ M = 243 ∨ M = 244 ∨ M = 245 ∨ M = 246 ∨ M = 247 by omega) with rfl | rfl | rfl | rfl | rfl | rfl | rfl | rfl
  · exact ck_240
  · exact ck_241
  · exact ck_242
  · exact ck_243
  · exact ck_244
  · exact ck_245
  · exact ck_246
  · exact ck_247
theorem ckg_31 (M : Nat) (h1 : 248 ≤ M) (h2 : M < 256) : chkM M = true := by
  rcases (show M = 248 ∨ M = 249 ∨ M = 250 ∨ M = 251 ∨ M = 252 ∨ M = 253 ∨ M = 254 ∨ M = 255 by omega) with rfl | rfl | rfl | rfl | rfl | rfl | rfl | rfl
  · exact ck_248
  · exact ck_249
  · exact ck_250
  · exact ck_251
  · exact ck_252
  · exact ck_253
  · exact ck_254
  · exact ck_255
theorem ckg_32 (M : Nat) (h1 : 256 ≤ M) (h2 : M < 264) : chkM M = true := by
  rcases (show M = 256 ∨ M = 257 ∨ M = 258 ∨ M = 259 ∨ M = 260 ∨ M = 261 ∨ M = 262 ∨ M = 263 by omega) with rfl | rfl | rfl | rfl | rfl | rfl | rfl | rfl
  · exact ck_256
  · exact ck_257
  · exact ck_258
  · exact ck_259
  · exact ck_260
  · exact ck_261
  · exact ck_262
  · exact ck_263
theorem ckg_33 (M : Nat) (h1 : 264 ≤ M) (h2 : M < 272) : chkM M = true := by
  rcases (show M = 264 ∨ M = 265 ∨ M = 266 ∨ M = 267 ∨ M = 268 ∨ M = 269 ∨ M = 270 ∨ M = 271 by omega) with rfl | rfl | rfl | rfl | rfl | rfl | rfl | rfl
  · exact ck_264
  · exact ck_265
  · exact ck_266
  · exact ck_267
  · exact ck_268
  · exact ck_269
  · exact ck_270
  · exact ck_271
theorem ckg_34 (M : Nat) (h1 : 272 ≤ M) (h2 : M < 280) : chkM M = true := by
  rcases (show M = 272 ∨ M = 273 ∨ M = 274 ∨ M = 275 ∨ M = 276 ∨ M = 277 ∨ M = 278 ∨ M = 279 by omega) with rfl | rfl | rfl | rfl | rfl | rfl | rfl | rfl
  · exact ck_272
  · exact ck_273
  · exact ck_274
  · exact ck_275
  · exact ck_276
  · exact ck_277
  · exact ck_278
  · exact ck_279
theorem ckg_35 (M : Nat) (h1 : 280 ≤ M) (h2 : M < 288) : chkM M = true := by
  rcases (show M = 280 ∨ M = 281 ∨ M = 282 ∨ M = 283 ∨ M = 284 ∨ M = 285 ∨ M = 286 ∨ M = 287 by omega) with rfl | rfl | rfl | rfl | rfl | rfl | rfl | rfl
  · exact ck_280
  · exact ck_281
  · exact ck_282
  · exact ck_283
  · exact ck_284
  · exact ck_285
  · exact ck_286
  · exact ck_287
theorem ckg_36 (M : Nat) (h1 : 288 ≤ M) (h2 : M < 296) : chkM M = true := by
  rcases (show M = 288 ∨ M = 289 ∨ M = 290 ∨ M = 291 ∨ M = 292 ∨ M = 293 ∨ M = 294 ∨ M = 295 by omega) with rfl | rfl | rfl | rfl | rfl | rfl | rfl | rfl
  · exact ck_288
  · exact ck_289
  · exact ck_290
  · exact ck_291
  · exact ck_292
  · exact ck_293
  · exact ck_294
  · exact ck_295
theorem ckg_37 (M : Nat) (h1 : 296 ≤ M) (h2 : M < 304) : chkM M = true := by
  rcases (show M = 296 ∨ M = 297 ∨ M = 298 ∨ M = 299 ∨ M = 300 ∨ M = 301 ∨ M = 302 ∨ M = 303 by omega) with rfl | rfl | rfl | rfl | rfl | rfl | rfl | rfl
  · exact ck_296
  · exact ck_297
  · exact ck_298
  · exact ck_299
  · exact ck_300
  · exact ck_301
  · exact ck_302
  · exact ck_303
theorem ckg_38 (M : Nat) (h1 : 304 ≤ M) (h2 : M < 312) : chkM M = true := by
  rcases (show M = 304 ∨ M = 305 ∨ M = 306 ∨ M = 307 ∨ M = 308 ∨ M = 309 ∨ M = 310 ∨ M = 311 by omega) with rfl | rfl | rfl | rfl | rfl | rfl | rfl | rfl
  · exact ck_304
  · exact ck_305
  · exact ck_306
  · exact ck_307
  · exact ck_308
  · exact ck_309
  · exact ck_310
  · exact ck_311
theorem ckg_39 (M : Nat) (h1 : 312 ≤ M) (h2 : M < 320) : chkM M = true := by
  rcases (show M = 312 ∨ M = 313 ∨ M = 314 ∨ M = 315 ∨ M = 316 ∨ M = 317 ∨ M = 318 ∨ M = 319 by omega) with rfl | rfl | rfl | rfl | rfl | rfl | rfl | rfl
  · exact ck_312
  · exact ck_313
  · exact ck_314
  · exact ck_315
  · exact ck_316
  · exact ck_317
  · exact ck_318
  · exact ck_319
theorem ckg_40 (M : Nat) (h1 : 320 ≤ M) (h2 : M < 321) : chkM M = true := by
  rcases (show M = 320 by omega) with rfl
  · exact ck_320
theorem ck_all (M : Nat) : chkM M = true := by
  by_cases h : M < 321
  · skip
    by_cases h20 : M < 160
    · skip
      by_cases h10 : M < 80
      · skip
        by_cases h5 : M < 40
        · skip
          by_cases h2 : M < 16
          · skip
            by_cases h1 : M < 8
            · skip
              exact ckg_0 M (by omega) (by omega)
            · skip
              exact ckg_1 M (by omega) (by omega)
          · skip
            by_cases h3 : M < 24
            · skip
              exact ckg_2 M (by omega) (by omega)
            · skip
              by_cases h4 : M < 32
              · skip
                exact ckg_3 M (by omega) (by omega)
              · skip
                exact ckg_4 M (by omega) (by omega)
        · skip
          by_cases h7 : M < 56
          · skip
            by_cases h6 : M < 48
            · skip
              exact ckg_5 M (by omega) (by omega)
            · skip
              exact ckg_6 M (by omega) (by omega)
          · skip
            by_cases h8 : M < 64
            · skip
              exact ckg_7 M (by omega) (by omega)
            · skip
              by_cases h9 : M < 72
              · skip
                exact ckg_8 M (by omega) (by omega)
              · skip
                exact ckg_9 M (by omega) (by omega)
      · skip
        by_cases h15 : M < 120
        · skip
          by_cases h12 : M < 96
          · skip
            by_cases h11 : M < 88
            · skip
              exact ckg_10 M (by omega) (by omega)
            · skip
              exact ckg_11 M (by omega) (by omega)
          · skip
            by_cases h13 : M < 104
            · skip
              exact ckg_12 M (by omega) (by omega)
            · skip
              by_cases h14 : M < 112
              · skip
                exact ckg_13 M (by omega) (by omega)
              · skip
                exact ckg_14 M (by omega) (by omega)
        · skip
          by_cases h17 : M < 136
          · skip
            by_cases h16 : M < 128
            · skip
              exact ckg_15 M (by omega) (by omega)
            · skip
              exact ckg_16 M (by omega) (by omega)
          · skip
            by_cases h18 : M < 144
            · skip
              exact ckg_17 M (by omega) (by omega)
            · skip
              by_cases h19 : M < 152
              · skip
                exact ckg_18 M (by omega) (by omega)
              · skip
                exact ckg_19 M (by omega) (by omega)
    · skip
      by_cases h30 : M < 240
      · skip
        by_cases h25 : M < 200
        · skip
          by_cases h22 : M < 176
          · skip
            by_cases h21 : M < 168
            · skip
              exact ckg_20 M (by omega) (by omega)
            · skip
              exact ckg_21 M (by omega) (by omega)
          · skip
            by_cases h23 : M < 184
            · skip
              exact ckg_22 M (by omega) (by omega)
            · skip
              by_cases h24 : M < 192
              · skip
                exact ckg_23 M (by omega) (by omega)
              · skip
                exact ckg_24 M (by omega) (by omega)
        · skip
          by_cases h27 : M < 216
          · skip
            by_cases h26 : M < 208
            · skip
              exact ckg_25 M (by omega) (by omega)
            · skip
              exact ckg_26 M (by omega) (by omega)
          · skip
            by_cases h28 : M < 224
            · skip
              exact ckg_27 M (by omega) (by omega)
            · skip
              by_cases h29 : M < 232
              · skip
                exact ckg_28 M (by omega) (by omega)
              · skip
                exact ckg_29 M (by omega) (by omega)
      · skip
        by_cases h35 : M < 280
        · skip
          by_cases h32 : M < 256
          · skip
            by_cases h31 : M < 248
            · skip
              exact ckg_30 M (by omega) (by omega)
            · skip
              exact ckg_31 M (by omega) (by omega)
          · skip
            by_cases h33 : M < 264
            · skip
              exact ckg_32 M (by omega) (by omega)
            · skip
              by_cases h34 : M < 272
              · skip
                exact ckg_33 M (by omega) (by omega)
              · skip
                exact ckg_34 M (by omega) (by omega)
        · skip
          by_cases h38 : M < 304
          · skip
            by_cases h36 : M < 288
            · skip
              exact ckg_35 M (by omega) (by omega)
            · skip
              by_cases h37 : M < 296
              · skip
                exact ckg_36 M (by omega) (by omega)
              · skip
                exact ckg_37 M (by omega) (by omega)
          · skip
            by_cases h39 : M < 312
            · skip
              exact ckg_38 M (by omega) (by omega)
            · skip
              by_cases h40 : M < 320
              · skip
                exact ckg_39 M (by omega) (by omega)
              · skip
                exact ckg_40 M (by omega) (by omega)
  · have h0 : mcode M = [] := by
      unfold mcode mrow
      rw [show Nat.blt M 321 = false from by rw [Bool.eq_false_iff]; intro q; rw [Nat.blt_eq] at q; exact h q]
      rfl
    unfold chkM
    rw [h0]
    rfl
