theorem dX8_init_0 : decode cX8_init 0 = .ok (.aload_n 0, 1) := by decide +kernel
theorem dX8_init_1 : decode cX8_init 1 = .ok (.invokespecial 1, 3) := by decide +kernel
theorem dX8_init_4 : decode cX8_init 4 = .ok (.aload_n 0, 1) := by decide +kernel
theorem dX8_init_5 : decode cX8_init 5 = .ok (.sipush 1416, 3) := by decide +kernel
theorem dX8_init_8 : decode cX8_init 8 = .ok (.newarray .int, 2) := by decide +kernel
theorem dX8_init_10 : decode cX8_init 10 = .ok (.putfield 7, 3) := by decide +kernel
theorem dX8_init_13 : decode cX8_init 13 = .ok (.aload_n 0, 1) := by decide +kernel
theorem dX8_init_14 : decode cX8_init 14 = .ok (.sipush 320, 3) := by decide +kernel
theorem dX8_init_17 : decode cX8_init 17 = .ok (.newarray .int, 2) := by decide +kernel
theorem dX8_init_19 : decode cX8_init 19 = .ok (.putfield 13, 3) := by decide +kernel
theorem dX8_init_22 : decode cX8_init 22 = .ok (.aload_n 0, 1) := by decide +kernel
theorem dX8_init_23 : decode cX8_init 23 = .ok (.bipush 13, 2) := by decide +kernel
theorem dX8_init_25 : decode cX8_init 25 = .ok (.newarray .int, 2) := by decide +kernel
theorem dX8_init_27 : decode cX8_init 27 = .ok (.dup, 1) := by decide +kernel
theorem dX8_init_28 : decode cX8_init 28 = .ok (.iconst 0, 1) := by decide +kernel
theorem dX8_init_29 : decode cX8_init 29 = .ok (.iconst 0, 1) := by decide +kernel
theorem dX8_init_30 : decode cX8_init 30 = .ok (.iastore, 1) := by decide +kernel
theorem dX8_init_31 : decode cX8_init 31 = .ok (.dup, 1) := by decide +kernel
theorem dX8_init_32 : decode cX8_init 32 = .ok (.iconst 1, 1) := by decide +kernel
theorem dX8_init_33 : decode cX8_init 33 = .ok (.iconst 3, 1) := by decide +kernel
theorem dX8_init_34 : decode cX8_init 34 = .ok (.iastore, 1) := by decide +kernel
theorem dX8_init_35 : decode cX8_init 35 = .ok (.dup, 1) := by decide +kernel
theorem dX8_init_36 : decode cX8_init 36 = .ok (.iconst 2, 1) := by decide +kernel
theorem dX8_init_37 : decode cX8_init 37 = .ok (.bipush 6, 2) := by decide +kernel
theorem dX8_init_39 : decode cX8_init 39 = .ok (.iastore, 1) := by decide +kernel
theorem dX8_init_40 : decode cX8_init 40 = .ok (.dup, 1) := by decide +kernel
theorem dX8_init_41 : decode cX8_init 41 = .ok (.iconst 3, 1) := by decide +kernel
theorem dX8_init_42 : decode cX8_init 42 = .ok (.bipush 8, 2) := by decide +kernel
theorem dX8_init_44 : decode cX8_init 44 = .ok (.iastore, 1) := by decide +kernel
theorem dX8_init_45 : decode cX8_init 45 = .ok (.dup, 1) := by decide +kernel
theorem dX8_init_46 : decode cX8_init 46 = .ok (.iconst 4, 1) := by decide +kernel
theorem dX8_init_47 : decode cX8_init 47 = .ok (.bipush 12, 2) := by decide +kernel
theorem dX8_init_49 : decode cX8_init 49 = .ok (.iastore, 1) := by decide +kernel
theorem dX8_init_50 : decode cX8_init 50 = .ok (.dup, 1) := by decide +kernel
theorem dX8_init_51 : decode cX8_init 51 = .ok (.iconst 5, 1) := by decide +kernel
theorem dX8_init_52 : decode cX8_init 52 = .ok (.bipush 15, 2) := by decide +kernel
theorem dX8_init_54 : decode cX8_init 54 = .ok (.iastore, 1) := by decide +kernel
theorem dX8_init_55 : decode cX8_init 55 = .ok (.dup, 1) := by decide +kernel
theorem dX8_init_56 : decode cX8_init 56 = .ok (.bipush 6, 2) := by decide +kernel
theorem dX8_init_58 : decode cX8_init 58 = .ok (.bipush 19, 2) := by decide +kernel
theorem dX8_init_60 : decode cX8_init 60 = .ok (.iastore, 1) := by decide +kernel
theorem dX8_init_61 : decode cX8_init 61 = .ok (.dup, 1) := by decide +kernel
theorem dX8_init_62 : decode cX8_init 62 = .ok (.bipush 7, 2) := by decide +kernel
theorem dX8_init_64 : decode cX8_init 64 = .ok (.bipush 23, 2) := by decide +kernel
theorem dX8_init_66 : decode cX8_init 66 = .ok (.iastore, 1) := by decide +kernel
theorem dX8_init_67 : decode cX8_init 67 = .ok (.dup, 1) := by decide +kernel
theorem dX8_init_68 : decode cX8_init 68 = .ok (.bipush 8, 2) := by decide +kernel
theorem dX8_init_70 : decode cX8_init 70 = .ok (.bipush 25, 2) := by decide +kernel
theorem dX8_init_72 : decode cX8_init 72 = .ok (.iastore, 1) := by decide +kernel
theorem dX8_init_73 : decode cX8_init 73 = .ok (.dup, 1) := by decide +kernel
theorem dX8_init_74 : decode cX8_init 74 = .ok (.bipush 9, 2) := by decide +kernel
theorem dX8_init_76 : decode cX8_init 76 = .ok (.bipush 29, 2) := by decide +kernel
theorem dX8_init_78 : decode cX8_init 78 = .ok (.iastore, 1) := by decide +kernel
theorem dX8_init_79 : decode cX8_init 79 = .ok (.dup, 1) := by decide +kernel
theorem dX8_init_80 : decode cX8_init 80 = .ok (.bipush 10, 2) := by decide +kernel
theorem dX8_init_82 : decode cX8_init 82 = .ok (.bipush 34, 2) := by decide +kernel
theorem dX8_init_84 : decode cX8_init 84 = .ok (.iastore, 1) := by decide +kernel
theorem dX8_init_85 : decode cX8_init 85 = .ok (.dup, 1) := by decide +kernel
theorem dX8_init_86 : decode cX8_init 86 = .ok (.bipush 11, 2) := by decide +kernel
theorem dX8_init_88 : decode cX8_init 88 = .ok (.bipush 38, 2) := by decide +kernel
theorem dX8_init_90 : decode cX8_init 90 = .ok (.iastore, 1) := by decide +kernel
theorem dX8_init_91 : decode cX8_init 91 = .ok (.dup, 1) := by decide +kernel
theorem dX8_init_92 : decode cX8_init 92 = .ok (.bipush 12, 2) := by decide +kernel
theorem dX8_init_94 : decode cX8_init 94 = .ok (.bipush 42, 2) := by decide +kernel
theorem dX8_init_96 : decode cX8_init 96 = .ok (.iastore, 1) := by decide +kernel
theorem dX8_init_97 : decode cX8_init 97 = .ok (.putfield 16, 3) := by decide +kernel
theorem dX8_init_100 : decode cX8_init 100 = .ok (.aload_n 0, 1) := by decide +kernel
theorem dX8_init_101 : decode cX8_init 101 = .ok (.bipush 42, 2) := by decide +kernel
theorem dX8_init_103 : decode cX8_init 103 = .ok (.newarray .int, 2) := by decide +kernel
theorem dX8_init_105 : decode cX8_init 105 = .ok (.dup, 1) := by decide +kernel
theorem dX8_init_106 : decode cX8_init 106 = .ok (.iconst 0, 1) := by decide +kernel
theorem dX8_init_107 : decode cX8_init 107 = .ok (.bipush 102, 2) := by decide +kernel
theorem dX8_init_109 : decode cX8_init 109 = .ok (.iastore, 1) := by decide +kernel
theorem dX8_init_110 : decode cX8_init 110 = .ok (.dup, 1) := by decide +kernel
theorem dX8_init_111 : decode cX8_init 111 = .ok (.iconst 1, 1) := by decide +kernel
theorem dX8_init_112 : decode cX8_init 112 = .ok (.bipush 117, 2) := by decide +kernel
theorem dX8_init_114 : decode cX8_init 114 = .ok (.iastore, 1) := by decide +kernel
theorem dX8_init_115 : decode cX8_init 115 = .ok (.dup, 1) := by decide +kernel
theorem dX8_init_116 : decode cX8_init 116 = .ok (.iconst 2, 1) := by decide +kernel
theorem dX8_init_117 : decode cX8_init 117 = .ok (.bipush 110, 2) := by decide +kernel
theorem dX8_init_119 : decode cX8_init 119 = .ok (.iastore, 1) := by decide +kernel
theorem dX8_init_120 : decode cX8_init 120 = .ok (.dup, 1) := by decide +kernel
theorem dX8_init_121 : decode cX8_init 121 = .ok (.iconst 3, 1) := by decide +kernel
theorem dX8_init_122 : decode cX8_init 122 = .ok (.bipush 115, 2) := by decide +kernel
theorem dX8_init_124 : decode cX8_init 124 = .ok (.iastore, 1) := by decide +kernel
theorem dX8_init_125 : decode cX8_init 125 = .ok (.dup, 1) := by decide +kernel
theorem dX8_init_126 : decode cX8_init 126 = .ok (.iconst 4, 1) := by decide +kernel
theorem dX8_init_127 : decode cX8_init 127 = .ok (.bipush 105, 2) := by decide +kernel
theorem dX8_init_129 : decode cX8_init 129 = .ok (.iastore, 1) := by decide +kernel
theorem dX8_init_130 : decode cX8_init 130 = .ok (.dup, 1) := by decide +kernel
theorem dX8_init_131 : decode cX8_init 131 = .ok (.iconst 5, 1) := by decide +kernel
theorem dX8_init_132 : decode cX8_init 132 = .ok (.bipush 103, 2) := by decide +kernel
theorem dX8_init_134 : decode cX8_init 134 = .ok (.iastore, 1) := by decide +kernel
theorem dX8_init_135 : decode cX8_init 135 = .ok (.dup, 1) := by decide +kernel
theorem dX8_init_136 : decode cX8_init 136 = .ok (.bipush 6, 2) := by decide +kernel
theorem dX8_init_138 : decode cX8_init 138 = .ok (.bipush 103, 2) := by decide +kernel
theorem dX8_init_140 : decode cX8_init 140 = .ok (.iastore, 1) := by decide +kernel
theorem dX8_init_141 : decode cX8_init 141 = .ok (.dup, 1) := by decide +kernel
theorem dX8_init_142 : decode cX8_init 142 = .ok (.bipush 7, 2) := by decide +kernel
theorem dX8_init_144 : decode cX8_init 144 = .ok (.bipush 111, 2) := by decide +kernel
theorem dX8_init_146 : decode cX8_init 146 = .ok (.iastore, 1) := by decide +kernel
theorem dX8_init_147 : decode cX8_init 147 = .ok (.dup, 1) := by decide +kernel
theorem dX8_init_148 : decode cX8_init 148 = .ok (.bipush 8, 2) := by decide +kernel
theorem dX8_init_150 : decode cX8_init 150 = .ok (.bipush 98, 2) := by decide +kernel
theorem dX8_init_152 : decode cX8_init 152 = .ok (.iastore, 1) := by decide +kernel
theorem dX8_init_153 : decode cX8_init 153 = .ok (.dup, 1) := by decide +kernel
theorem dX8_init_154 : decode cX8_init 154 = .ok (.bipush 9, 2) := by decide +kernel
theorem dX8_init_156 : decode cX8_init 156 = .ok (.bipush 97, 2) := by decide +kernel
theorem dX8_init_158 : decode cX8_init 158 = .ok (.iastore, 1) := by decide +kernel
theorem dX8_init_159 : decode cX8_init 159 = .ok (.dup, 1) := by decide +kernel
theorem dX8_init_160 : decode cX8_init 160 = .ok (.bipush 10, 2) := by decide +kernel
theorem dX8_init_162 : decode cX8_init 162 = .ok (.bipush 115, 2) := by decide +kernel
theorem dX8_init_164 : decode cX8_init 164 = .ok (.iastore, 1) := by decide +kernel
theorem dX8_init_165 : decode cX8_init 165 = .ok (.dup, 1) := by decide +kernel
theorem dX8_init_166 : decode cX8_init 166 = .ok (.bipush 11, 2) := by decide +kernel
theorem dX8_init_168 : decode cX8_init 168 = .ok (.bipush 101, 2) := by decide +kernel
theorem dX8_init_170 : decode cX8_init 170 = .ok (.iastore, 1) := by decide +kernel
theorem dX8_init_171 : decode cX8_init 171 = .ok (.dup, 1) := by decide +kernel
theorem dX8_init_172 : decode cX8_init 172 = .ok (.bipush 12, 2) := by decide +kernel
theorem dX8_init_174 : decode cX8_init 174 = .ok (.bipush 111, 2) := by decide +kernel
theorem dX8_init_176 : decode cX8_init 176 = .ok (.iastore, 1) := by decide +kernel
theorem dX8_init_177 : decode cX8_init 177 = .ok (.dup, 1) := by decide +kernel
theorem dX8_init_178 : decode cX8_init 178 = .ok (.bipush 13, 2) := by decide +kernel
theorem dX8_init_180 : decode cX8_init 180 = .ok (.bipush 102, 2) := by decide +kernel
theorem dX8_init_182 : decode cX8_init 182 = .ok (.iastore, 1) := by decide +kernel
theorem dX8_init_183 : decode cX8_init 183 = .ok (.dup, 1) := by decide +kernel
theorem dX8_init_184 : decode cX8_init 184 = .ok (.bipush 14, 2) := by decide +kernel
theorem dX8_init_186 : decode cX8_init 186 = .ok (.bipush 102, 2) := by decide +kernel
theorem dX8_init_188 : decode cX8_init 188 = .ok (.iastore, 1) := by decide +kernel
theorem dX8_init_189 : decode cX8_init 189 = .ok (.dup, 1) := by decide +kernel
theorem dX8_init_190 : decode cX8_init 190 = .ok (.bipush 15, 2) := by decide +kernel
theorem dX8_init_192 : decode cX8_init 192 = .ok (.bipush 115, 2) := by decide +kernel
theorem dX8_init_194 : decode cX8_init 194 = .ok (.iastore, 1) := by decide +kernel
theorem dX8_init_195 : decode cX8_init 195 = .ok (.dup, 1) := by decide +kernel
theorem dX8_init_196 : decode cX8_init 196 = .ok (.bipush 16, 2) := by decide +kernel
theorem dX8_init_198 : decode cX8_init 198 = .ok (.bipush 97, 2) := by decide +kernel
theorem dX8_init_200 : decode cX8_init 200 = .ok (.iastore, 1) := by decide +kernel
theorem dX8_init_201 : decode cX8_init 201 = .ok (.dup, 1) := by decide +kernel
theorem dX8_init_202 : decode cX8_init 202 = .ok (.bipush 17, 2) := by decide +kernel
theorem dX8_init_204 : decode cX8_init 204 = .ok (.bipush 118, 2) := by decide +kernel
theorem dX8_init_206 : decode cX8_init 206 = .ok (.iastore, 1) := by decide +kernel
theorem dX8_init_207 : decode cX8_init 207 = .ok (.dup, 1) := by decide +kernel
theorem dX8_init_208 : decode cX8_init 208 = .ok (.bipush 18, 2) := by decide +kernel
theorem dX8_init_210 : decode cX8_init 210 = .ok (.bipush 101, 2) := by decide +kernel
theorem dX8_init_212 : decode cX8_init 212 = .ok (.iastore, 1) := by decide +kernel
theorem dX8_init_213 : decode cX8_init 213 = .ok (.dup, 1) := by decide +kernel
theorem dX8_init_214 : decode cX8_init 214 = .ok (.bipush 19, 2) := by decide +kernel
theorem dX8_init_216 : decode cX8_init 216 = .ok (.bipush 107, 2) := by decide +kernel
theorem dX8_init_218 : decode cX8_init 218 = .ok (.iastore, 1) := by decide +kernel
theorem dX8_init_219 : decode cX8_init 219 = .ok (.dup, 1) := by decide +kernel
theorem dX8_init_220 : decode cX8_init 220 = .ok (.bipush 20, 2) := by decide +kernel
theorem dX8_init_222 : decode cX8_init 222 = .ok (.bipush 101, 2) := by decide +kernel
theorem dX8_init_224 : decode cX8_init 224 = .ok (.iastore, 1) := by decide +kernel
theorem dX8_init_225 : decode cX8_init 225 = .ok (.dup, 1) := by decide +kernel
theorem dX8_init_226 : decode cX8_init 226 = .ok (.bipush 21, 2) := by decide +kernel
theorem dX8_init_228 : decode cX8_init 228 = .ok (.bipush 101, 2) := by decide +kernel
theorem dX8_init_230 : decode cX8_init 230 = .ok (.iastore, 1) := by decide +kernel
theorem dX8_init_231 : decode cX8_init 231 = .ok (.dup, 1) := by decide +kernel
theorem dX8_init_232 : decode cX8_init 232 = .ok (.bipush 22, 2) := by decide +kernel
theorem dX8_init_234 : decode cX8_init 234 = .ok (.bipush 112, 2) := by decide +kernel
theorem dX8_init_236 : decode cX8_init 236 = .ok (.iastore, 1) := by decide +kernel
theorem dX8_init_237 : decode cX8_init 237 = .ok (.dup, 1) := by decide +kernel
theorem dX8_init_238 : decode cX8_init 238 = .ok (.bipush 23, 2) := by decide +kernel
theorem dX8_init_240 : decode cX8_init 240 = .ok (.bipush 105, 2) := by decide +kernel
theorem dX8_init_242 : decode cX8_init 242 = .ok (.iastore, 1) := by decide +kernel
theorem dX8_init_243 : decode cX8_init 243 = .ok (.dup, 1) := by decide +kernel
theorem dX8_init_244 : decode cX8_init 244 = .ok (.bipush 24, 2) := by decide +kernel
theorem dX8_init_246 : decode cX8_init 246 = .ok (.bipush 110, 2) := by decide +kernel
theorem dX8_init_248 : decode cX8_init 248 = .ok (.iastore, 1) := by decide +kernel
theorem dX8_init_249 : decode cX8_init 249 = .ok (.dup, 1) := by decide +kernel
theorem dX8_init_250 : decode cX8_init 250 = .ok (.bipush 25, 2) := by decide +kernel
theorem dX8_init_252 : decode cX8_init 252 = .ok (.bipush 109, 2) := by decide +kernel
theorem dX8_init_254 : decode cX8_init 254 = .ok (.iastore, 1) := by decide +kernel
theorem dX8_init_255 : decode cX8_init 255 = .ok (.dup, 1) := by decide +kernel
theorem dX8_init_256 : decode cX8_init 256 = .ok (.bipush 26, 2) := by decide +kernel
theorem dX8_init_258 : decode cX8_init 258 = .ok (.bipush 97, 2) := by decide +kernel
theorem dX8_init_260 : decode cX8_init 260 = .ok (.iastore, 1) := by decide +kernel
theorem dX8_init_261 : decode cX8_init 261 = .ok (.dup, 1) := by decide +kernel
theorem dX8_init_262 : decode cX8_init 262 = .ok (.bipush 27, 2) := by decide +kernel
theorem dX8_init_264 : decode cX8_init 264 = .ok (.bipush 114, 2) := by decide +kernel
theorem dX8_init_266 : decode cX8_init 266 = .ok (.iastore, 1) := by decide +kernel
theorem dX8_init_267 : decode cX8_init 267 = .ok (.dup, 1) := by decide +kernel
theorem dX8_init_268 : decode cX8_init 268 = .ok (.bipush 28, 2) := by decide +kernel
theorem dX8_init_270 : decode cX8_init 270 = .ok (.bipush 107, 2) := by decide +kernel
theorem dX8_init_272 : decode cX8_init 272 = .ok (.iastore, 1) := by decide +kernel
theorem dX8_init_273 : decode cX8_init 273 = .ok (.dup, 1) := by decide +kernel
theorem dX8_init_274 : decode cX8_init 274 = .ok (.bipush 29, 2) := by decide +kernel
theorem dX8_init_276 : decode cX8_init 276 = .ok (.bipush 114, 2) := by decide +kernel
theorem dX8_init_278 : decode cX8_init 278 = .ok (.iastore, 1) := by decide +kernel
theorem dX8_init_279 : decode cX8_init 279 = .ok (.dup, 1) := by decide +kernel
theorem dX8_init_280 : decode cX8_init 280 = .ok (.bipush 30, 2) := by decide +kernel
theorem dX8_init_282 : decode cX8_init 282 = .ok (.bipush 101, 2) := by decide +kernel
theorem dX8_init_284 : decode cX8_init 284 = .ok (.iastore, 1) := by decide +kernel
theorem dX8_init_285 : decode cX8_init 285 = .ok (.dup, 1) := by decide +kernel
theorem dX8_init_286 : decode cX8_init 286 = .ok (.bipush 31, 2) := by decide +kernel
theorem dX8_init_288 : decode cX8_init 288 = .ok (.bipush 115, 2) := by decide +kernel
theorem dX8_init_290 : decode cX8_init 290 = .ok (.iastore, 1) := by decide +kernel
theorem dX8_init_291 : decode cX8_init 291 = .ok (.dup, 1) := by decide +kernel
theorem dX8_init_292 : decode cX8_init 292 = .ok (.bipush 32, 2) := by decide +kernel
theorem dX8_init_294 : decode cX8_init 294 = .ok (.bipush 101, 2) := by decide +kernel
theorem dX8_init_296 : decode cX8_init 296 = .ok (.iastore, 1) := by decide +kernel
theorem dX8_init_297 : decode cX8_init 297 = .ok (.dup, 1) := by decide +kernel
theorem dX8_init_298 : decode cX8_init 298 = .ok (.bipush 33, 2) := by decide +kernel
theorem dX8_init_300 : decode cX8_init 300 = .ok (.bipush 116, 2) := by decide +kernel
theorem dX8_init_302 : decode cX8_init 302 = .ok (.iastore, 1) := by decide +kernel
theorem dX8_init_303 : decode cX8_init 303 = .ok (.dup, 1) := by decide +kernel
theorem dX8_init_304 : decode cX8_init 304 = .ok (.bipush 34, 2) := by decide +kernel
theorem dX8_init_306 : decode cX8_init 306 = .ok (.bipush 108, 2) := by decide +kernel
theorem dX8_init_308 : decode cX8_init 308 = .ok (.iastore, 1) := by decide +kernel
theorem dX8_init_309 : decode cX8_init 309 = .ok (.dup, 1) := by decide +kernel
theorem dX8_init_310 : decode cX8_init 310 = .ok (.bipush 35, 2) := by decide +kernel
theorem dX8_init_312 : decode cX8_init 312 = .ok (.bipush 97, 2) := by decide +kernel
theorem dX8_init_314 : decode cX8_init 314 = .ok (.iastore, 1) := by decide +kernel
theorem dX8_init_315 : decode cX8_init 315 = .ok (.dup, 1) := by decide +kernel
theorem dX8_init_316 : decode cX8_init 316 = .ok (.bipush 36, 2) := by decide +kernel
theorem dX8_init_318 : decode cX8_init 318 = .ok (.bipush 110, 2) := by decide +kernel
theorem dX8_init_320 : decode cX8_init 320 = .ok (.iastore, 1) := by decide +kernel
theorem dX8_init_321 : decode cX8_init 321 = .ok (.dup, 1) := by decide +kernel
theorem dX8_init_322 : decode cX8_init 322 = .ok (.bipush 37, 2) := by decide +kernel
theorem dX8_init_324 : decode cX8_init 324 = .ok (.bipush 100, 2) := by decide +kernel
theorem dX8_init_326 : decode cX8_init 326 = .ok (.iastore, 1) := by decide +kernel
theorem dX8_init_327 : decode cX8_init 327 = .ok (.dup, 1) := by decide +kernel
theorem dX8_init_328 : decode cX8_init 328 = .ok (.bipush 38, 2) := by decide +kernel
theorem dX8_init_330 : decode cX8_init 330 = .ok (.bipush 99, 2) := by decide +kernel
theorem dX8_init_332 : decode cX8_init 332 = .ok (.iastore, 1) := by decide +kernel
theorem dX8_init_333 : decode cX8_init 333 = .ok (.dup, 1) := by decide +kernel
theorem dX8_init_334 : decode cX8_init 334 = .ok (.bipush 39, 2) := by decide +kernel
theorem dX8_init_336 : decode cX8_init 336 = .ok (.bipush 97, 2) := by decide +kernel
theorem dX8_init_338 : decode cX8_init 338 = .ok (.iastore, 1) := by decide +kernel
theorem dX8_init_339 : decode cX8_init 339 = .ok (.dup, 1) := by decide +kernel
theorem dX8_init_340 : decode cX8_init 340 = .ok (.bipush 40, 2) := by decide +kernel
theorem dX8_init_342 : decode cX8_init 342 = .ok (.bipush 108, 2) := by decide +kernel
theorem dX8_init_344 : decode cX8_init 344 = .ok (.iastore, 1) := by decide +kernel
theorem dX8_init_345 : decode cX8_init 345 = .ok (.dup, 1) := by decide +kernel
theorem dX8_init_346 : decode cX8_init 346 = .ok (.bipush 41, 2) := by decide +kernel
theorem dX8_init_348 : decode cX8_init 348 = .ok (.bipush 108, 2) := by decide +kernel
theorem dX8_init_350 : decode cX8_init 350 = .ok (.iastore, 1) := by decide +kernel
theorem dX8_init_351 : decode cX8_init 351 = .ok (.putfield 19, 3) := by decide +kernel
theorem dX8_init_354 : decode cX8_init 354 = .ok (.aload_n 0, 1) := by decide +kernel
theorem dX8_init_355 : decode cX8_init 355 = .ok (.bipush 14, 2) := by decide +kernel
theorem dX8_init_357 : decode cX8_init 357 = .ok (.newarray .int, 2) := by decide +kernel
theorem dX8_init_359 : decode cX8_init 359 = .ok (.putfield 22, 3) := by decide +kernel
theorem dX8_init_362 : decode cX8_init 362 = .ok (.aload_n 0, 1) := by decide +kernel
theorem dX8_init_363 : decode cX8_init 363 = .ok (.bipush 42, 2) := by decide +kernel
theorem dX8_init_365 : decode cX8_init 365 = .ok (.newarray .int, 2) := by decide +kernel
theorem dX8_init_367 : decode cX8_init 367 = .ok (.putfield 25, 3) := by decide +kernel
theorem dX8_init_370 : decode cX8_init 370 = .ok (.aload_n 0, 1) := by decide +kernel
theorem dX8_init_371 : decode cX8_init 371 = .ok (.bipush 126, 2) := by decide +kernel
theorem dX8_init_373 : decode cX8_init 373 = .ok (.newarray .int, 2) := by decide +kernel
theorem dX8_init_375 : decode cX8_init 375 = .ok (.putfield 28, 3) := by decide +kernel
theorem dX8_init_378 : decode cX8_init 378 = .ok (.aload_n 0, 1) := by decide +kernel
theorem dX8_init_379 : decode cX8_init 379 = .ok (.bipush 21, 2) := by decide +kernel
theorem dX8_init_381 : decode cX8_init 381 = .ok (.newarray .int, 2) := by decide +kernel
theorem dX8_init_383 : decode cX8_init 383 = .ok (.putfield 31, 3) := by decide +kernel
theorem dX8_init_386 : decode cX8_init 386 = .ok (.aload_n 0, 1) := by decide +kernel
theorem dX8_init_387 : decode cX8_init 387 = .ok (.bipush 21, 2) := by decide +kernel
theorem dX8_init_389 : decode cX8_init 389 = .ok (.newarray .int, 2) := by decide +kernel
theorem dX8_init_391 : decode cX8_init 391 = .ok (.putfield 34, 3) := by decide +kernel
theorem dX8_init_394 : decode cX8_init 394 = .ok (.aload_n 0, 1) := by decide +kernel
theorem dX8_init_395 : decode cX8_init 395 = .ok (.bipush 21, 2) := by decide +kernel
theorem dX8_init_397 : decode cX8_init 397 = .ok (.newarray .int, 2) := by decide +kernel
theorem dX8_init_399 : decode cX8_init 399 = .ok (.putfield 37, 3) := by decide +kernel
theorem dX8_init_402 : decode cX8_init 402 = .ok (.aload_n 0, 1) := by decide +kernel
theorem dX8_init_403 : decode cX8_init 403 = .ok (.iconst 2, 1) := by decide +kernel
theorem dX8_init_404 : decode cX8_init 404 = .ok (.newarray .boolean, 2) := by decide +kernel
theorem dX8_init_406 : decode cX8_init 406 = .ok (.dup, 1) := by decide +kernel
theorem dX8_init_407 : decode cX8_init 407 = .ok (.iconst 0, 1) := by decide +kernel
theorem dX8_init_408 : decode cX8_init 408 = .ok (.iconst 0, 1) := by decide +kernel
theorem dX8_init_409 : decode cX8_init 409 = .ok (.bastore, 1) := by decide +kernel
theorem dX8_init_410 : decode cX8_init 410 = .ok (.dup, 1) := by decide +kernel
theorem dX8_init_411 : decode cX8_init 411 = .ok (.iconst 1, 1) := by decide +kernel
theorem dX8_init_412 : decode cX8_init 412 = .ok (.iconst 0, 1) := by decide +kernel
theorem dX8_init_413 : decode cX8_init 413 = .ok (.bastore, 1) := by decide +kernel
theorem dX8_init_414 : decode cX8_init 414 = .ok (.putfield 40, 3) := by decide +kernel
theorem dX8_init_417 : decode cX8_init 417 = .ok (.aload_n 0, 1) := by decide +kernel
theorem dX8_init_418 : decode cX8_init 418 = .ok (.iconst 4, 1) := by decide +kernel
theorem dX8_init_419 : decode cX8_init 419 = .ok (.newarray .int, 2) := by decide +kernel
theorem dX8_init_421 : decode cX8_init 421 = .ok (.dup, 1) := by decide +kernel
theorem dX8_init_422 : decode cX8_init 422 = .ok (.iconst 0, 1) := by decide +kernel
theorem dX8_init_423 : decode cX8_init 423 = .ok (.bipush (-4), 2) := by decide +kernel
theorem dX8_init_425 : decode cX8_init 425 = .ok (.iastore, 1) := by decide +kernel
theorem dX8_init_426 : decode cX8_init 426 = .ok (.dup, 1) := by decide +kernel
theorem dX8_init_427 : decode cX8_init 427 = .ok (.iconst 1, 1) := by decide +kernel
theorem dX8_init_428 : decode cX8_init 428 = .ok (.bipush (-4), 2) := by decide +kernel
theorem dX8_init_430 : decode cX8_init 430 = .ok (.iastore, 1) := by decide +kernel
theorem dX8_init_431 : decode cX8_init 431 = .ok (.dup, 1) := by decide +kernel
theorem dX8_init_432 : decode cX8_init 432 = .ok (.iconst 2, 1) := by decide +kernel
theorem dX8_init_433 : decode cX8_init 433 = .ok (.bipush (-4), 2) := by decide +kernel
theorem dX8_init_435 : decode cX8_init 435 = .ok (.iastore, 1) := by decide +kernel
theorem dX8_init_436 : decode cX8_init 436 = .ok (.dup, 1) := by decide +kernel
theorem dX8_init_437 : decode cX8_init 437 = .ok (.iconst 3, 1) := by decide +kernel
theorem dX8_init_438 : decode cX8_init 438 = .ok (.bipush (-4), 2) := by decide +kernel
theorem dX8_init_440 : decode cX8_init 440 = .ok (.iastore, 1) := by decide +kernel
theorem dX8_init_441 : decode cX8_init 441 = .ok (.putfield 44, 3) := by decide +kernel
theorem dX8_init_444 : decode cX8_init 444 = .ok (.aload_n 0, 1) := by decide +kernel
theorem dX8_init_445 : decode cX8_init 445 = .ok (.iconst 4, 1) := by decide +kernel
theorem dX8_init_446 : decode cX8_init 446 = .ok (.newarray .int, 2) := by decide +kernel
theorem dX8_init_448 : decode cX8_init 448 = .ok (.dup, 1) := by decide +kernel
theorem dX8_init_449 : decode cX8_init 449 = .ok (.iconst 0, 1) := by decide +kernel
theorem dX8_init_450 : decode cX8_init 450 = .ok (.iconst 0, 1) := by decide +kernel
theorem dX8_init_451 : decode cX8_init 451 = .ok (.iastore, 1) := by decide +kernel
theorem dX8_init_452 : decode cX8_init 452 = .ok (.dup, 1) := by decide +kernel
theorem dX8_init_453 : decode cX8_init 453 = .ok (.iconst 1, 1) := by decide +kernel
theorem dX8_init_454 : decode cX8_init 454 = .ok (.iconst 0, 1) := by decide +kernel
theorem dX8_init_455 : decode cX8_init 455 = .ok (.iastore, 1) := by decide +kernel
theorem dX8_init_456 : decode cX8_init 456 = .ok (.dup, 1) := by decide +kernel
theorem dX8_init_457 : decode cX8_init 457 = .ok (.iconst 2, 1) := by decide +kernel
theorem dX8_init_458 : decode cX8_init 458 = .ok (.iconst 0, 1) := by decide +kernel
theorem dX8_init_459 : decode cX8_init 459 = .ok (.iastore, 1) := by decide +kernel
theorem dX8_init_460 : decode cX8_init 460 = .ok (.dup, 1) := by decide +kernel
theorem dX8_init_461 : decode cX8_init 461 = .ok (.iconst 3, 1) := by decide +kernel
theorem dX8_init_462 : decode cX8_init 462 = .ok (.iconst 0, 1) := by decide +kernel
theorem dX8_init_463 : decode cX8_init 463 = .ok (.iastore, 1) := by decide +kernel
theorem dX8_init_464 : decode cX8_init 464 = .ok (.putfield 47, 3) := by decide +kernel
theorem dX8_init_467 : decode cX8_init 467 = .ok (.aload_n 0, 1) := by decide +kernel
theorem dX8_init_468 : decode cX8_init 468 = .ok (.sipush 160, 3) := by decide +kernel
theorem dX8_init_471 : decode cX8_init 471 = .ok (.newarray .int, 2) := by decide +kernel
theorem dX8_init_473 : decode cX8_init 473 = .ok (.putfield 50, 3) := by decide +kernel
theorem dX8_init_476 : decode cX8_init 476 = .ok (.aload_n 0, 1) := by decide +kernel
theorem dX8_init_477 : decode cX8_init 477 = .ok (.bipush 48, 2) := by decide +kernel
theorem dX8_init_479 : decode cX8_init 479 = .ok (.newarray .int, 2) := by decide +kernel
theorem dX8_init_481 : decode cX8_init 481 = .ok (.putfield 53, 3) := by decide +kernel
theorem dX8_init_484 : decode cX8_init 484 = .ok (.return_, 1) := by decide +kernel
theorem dX8_in_0 : decode cX8_in 0 = .ok (.lload_n 0, 1) := by decide +kernel
theorem dX8_in_1 : decode cX8_in 1 = .ok (.lload_n 2, 1) := by decide +kernel
theorem dX8_in_2 : decode cX8_in 2 = .ok (.lcmp, 1) := by decide +kernel
theorem dX8_in_3 : decode cX8_in 3 = .ok (.ifCond .lt 14, 3) := by decide +kernel
theorem dX8_in_6 : decode cX8_in 6 = .ok (.lload_n 0, 1) := by decide +kernel
theorem dX8_in_7 : decode cX8_in 7 = .ok (.lload 4, 2) := by decide +kernel
theorem dX8_in_9 : decode cX8_in 9 = .ok (.lcmp, 1) := by decide +kernel
theorem dX8_in_10 : decode cX8_in 10 = .ok (.ifCond .gt 7, 3) := by decide +kernel
theorem dX8_in_13 : decode cX8_in 13 = .ok (.iconst 1, 1) := by decide +kernel
theorem dX8_in_14 : decode cX8_in 14 = .ok (.goto 4, 3) := by decide +kernel
theorem dX8_in_17 : decode cX8_in 17 = .ok (.iconst 0, 1) := by decide +kernel
theorem dX8_in_18 : decode cX8_in 18 = .ok (.ireturn, 1) := by decide +kernel
set_option maxRecDepth 20000 in
theorem ggX8_feed_X8_in : GoodIn wsX8_feed wsX8_in := goodIn_r _ [7] rfl rfl
set_option maxRecDepth 20000 in
theorem gX8_feed_X8_in : GoodIn wsX8_feed (va_wsS RX8 58 yX8_in wsX8_in) := goodIn_app (goodIn_of _ (by decide +kernel)) ggX8_feed_X8_in
theorem dX8_feed_0 : decode cX8_feed 0 = .ok (.iload_n 1, 1) := by decide +kernel
theorem dX8_feed_1 : decode cX8_feed 1 = .ok (.i2l, 1) := by decide +kernel
theorem dX8_feed_2 : decode cX8_feed 2 = .ok (.lconst 0, 1) := by decide +kernel
theorem dX8_feed_3 : decode cX8_feed 3 = .ok (.ldc2_w 56, 3) := by decide +kernel
theorem dX8_feed_6 : decode cX8_feed 6 = .ok (.invokestatic 58, 3) := by decide +kernel
theorem dX8_feed_9 : decode cX8_feed 9 = .ok (.ifCond .ne 5, 3) := by decide +kernel
theorem dX8_feed_12 : decode cX8_feed 12 = .ok (.iconst (-1), 1) := by decide +kernel
theorem dX8_feed_13 : decode cX8_feed 13 = .ok (.ireturn, 1) := by decide +kernel
theorem dX8_feed_14 : decode cX8_feed 14 = .ok (.aload_n 0, 1) := by decide +kernel
theorem dX8_feed_15 : decode cX8_feed 15 = .ok (.getfield 62, 3) := by decide +kernel
theorem dX8_feed_18 : decode cX8_feed 18 = .ok (.sipush 320, 3) := by decide +kernel
theorem dX8_feed_21 : decode cX8_feed 21 = .ok (.if_icmp .ne 6, 3) := by decide +kernel
theorem dX8_feed_24 : decode cX8_feed 24 = .ok (.bipush (-3), 2) := by decide +kernel
theorem dX8_feed_26 : decode cX8_feed 26 = .ok (.ireturn, 1) := by decide +kernel
theorem dX8_feed_27 : decode cX8_feed 27 = .ok (.aload_n 0, 1) := by decide +kernel
theorem dX8_feed_28 : decode cX8_feed 28 = .ok (.getfield 13, 3) := by decide +kernel
theorem dX8_feed_31 : decode cX8_feed 31 = .ok (.aload_n 0, 1) := by decide +kernel
theorem dX8_feed_32 : decode cX8_feed 32 = .ok (.getfield 62, 3) := by decide +kernel
theorem dX8_feed_35 : decode cX8_feed 35 = .ok (.iload_n 1, 1) := by decide +kernel
theorem dX8_feed_36 : decode cX8_feed 36 = .ok (.iastore, 1) := by decide +kernel
theorem dX8_feed_37 : decode cX8_feed 37 = .ok (.aload_n 0, 1) := by decide +kernel
theorem dX8_feed_38 : decode cX8_feed 38 = .ok (.dup, 1) := by decide +kernel
theorem dX8_feed_39 : decode cX8_feed 39 = .ok (.getfield 62, 3) := by decide +kernel
theorem dX8_feed_42 : decode cX8_feed 42 = .ok (.iconst 1, 1) := by decide +kernel
theorem dX8_feed_43 : decode cX8_feed 43 = .ok (.iadd, 1) := by decide +kernel
theorem dX8_feed_44 : decode cX8_feed 44 = .ok (.putfield 62, 3) := by decide +kernel
theorem dX8_feed_47 : decode cX8_feed 47 = .ok (.aload_n 0, 1) := by decide +kernel
theorem dX8_feed_48 : decode cX8_feed 48 = .ok (.getfield 62, 3) := by decide +kernel
theorem dX8_feed_51 : decode cX8_feed 51 = .ok (.ireturn, 1) := by decide +kernel
set_option maxRecDepth 20000 in
theorem ggX8_end_X8_in : GoodIn wsX8_end wsX8_in := goodIn_r _ [5] rfl rfl
set_option maxRecDepth 20000 in
theorem gX8_end_X8_in : GoodIn wsX8_end (va_wsS RX8 58 yX8_in wsX8_in) := goodIn_app (goodIn_of _ (by decide +kernel)) ggX8_end_X8_in
theorem dX8_end_0 : decode cX8_end 0 = .ok (.iload_n 1, 1) := by decide +kernel
theorem dX8_end_1 : decode cX8_end 1 = .ok (.i2l, 1) := by decide +kernel
theorem dX8_end_2 : decode cX8_end 2 = .ok (.lconst 0, 1) := by decide +kernel
theorem dX8_end_3 : decode cX8_end 3 = .ok (.aload_n 0, 1) := by decide +kernel
theorem dX8_end_4 : decode cX8_end 4 = .ok (.getfield 62, 3) := by decide +kernel
theorem dX8_end_7 : decode cX8_end 7 = .ok (.i2l, 1) := by decide +kernel
theorem dX8_end_8 : decode cX8_end 8 = .ok (.invokestatic 58, 3) := by decide +kernel
theorem dX8_end_11 : decode cX8_end 11 = .ok (.ifCond .ne 5, 3) := by decide +kernel
theorem dX8_end_14 : decode cX8_end 14 = .ok (.iconst (-1), 1) := by decide +kernel
theorem dX8_end_15 : decode cX8_end 15 = .ok (.ireturn, 1) := by decide +kernel
theorem dX8_end_16 : decode cX8_end 16 = .ok (.aload_n 0, 1) := by decide +kernel
theorem dX8_end_17 : decode cX8_end 17 = .ok (.getfield 62, 3) := by decide +kernel
theorem dX8_end_20 : decode cX8_end 20 = .ok (.istore_n 2, 1) := by decide +kernel
theorem dX8_end_21 : decode cX8_end 21 = .ok (.aload_n 0, 1) := by decide +kernel
theorem dX8_end_22 : decode cX8_end 22 = .ok (.iload_n 1, 1) := by decide +kernel
theorem dX8_end_23 : decode cX8_end 23 = .ok (.putfield 62, 3) := by decide +kernel
theorem dX8_end_26 : decode cX8_end 26 = .ok (.iload_n 2, 1) := by decide +kernel
theorem dX8_end_27 : decode cX8_end 27 = .ok (.ireturn, 1) := by decide +kernel
theorem dX8_byteAt_0 : decode cX8_byteAt 0 = .ok (.iload_n 1, 1) := by decide +kernel
theorem dX8_byteAt_1 : decode cX8_byteAt 1 = .ok (.aload_n 0, 1) := by decide +kernel
theorem dX8_byteAt_2 : decode cX8_byteAt 2 = .ok (.getfield 62, 3) := by decide +kernel
theorem dX8_byteAt_5 : decode cX8_byteAt 5 = .ok (.if_icmp .ge 12, 3) := by decide +kernel
theorem dX8_byteAt_8 : decode cX8_byteAt 8 = .ok (.aload_n 0, 1) := by decide +kernel
theorem dX8_byteAt_9 : decode cX8_byteAt 9 = .ok (.getfield 13, 3) := by decide +kernel
theorem dX8_byteAt_12 : decode cX8_byteAt 12 = .ok (.iload_n 1, 1) := by decide +kernel
theorem dX8_byteAt_13 : decode cX8_byteAt 13 = .ok (.iaload, 1) := by decide +kernel
theorem dX8_byteAt_14 : decode cX8_byteAt 14 = .ok (.goto 5, 3) := by decide +kernel
theorem dX8_byteAt_17 : decode cX8_byteAt 17 = .ok (.bipush (-4), 2) := by decide +kernel
theorem dX8_byteAt_19 : decode cX8_byteAt 19 = .ok (.ireturn, 1) := by decide +kernel
theorem dX8_fails_0 : decode cX8_fails 0 = .ok (.aload_n 0, 1) := by decide +kernel
theorem dX8_fails_1 : decode cX8_fails 1 = .ok (.getfield 66, 3) := by decide +kernel
theorem dX8_fails_4 : decode cX8_fails 4 = .ok (.ifCond .ne 16, 3) := by decide +kernel
theorem dX8_fails_7 : decode cX8_fails 7 = .ok (.aload_n 0, 1) := by decide +kernel
theorem dX8_fails_8 : decode cX8_fails 8 = .ok (.iload_n 1, 1) := by decide +kernel
theorem dX8_fails_9 : decode cX8_fails 9 = .ok (.putfield 66, 3) := by decide +kernel
theorem dX8_fails_12 : decode cX8_fails 12 = .ok (.aload_n 0, 1) := by decide +kernel
theorem dX8_fails_13 : decode cX8_fails 13 = .ok (.aload_n 0, 1) := by decide +kernel
theorem dX8_fails_14 : decode cX8_fails 14 = .ok (.getfield 69, 3) := by decide +kernel
theorem dX8_fails_17 : decode cX8_fails 17 = .ok (.putfield 72, 3) := by decide +kernel
theorem dX8_fails_20 : decode cX8_fails 20 = .ok (.return_, 1) := by decide +kernel
set_option maxRecDepth 20000 in
theorem ggX8_nameHere_X8_byteAt : GoodIn wsX8_nameHere wsX8_byteAt := goodIn_r _ [10, 11, 12, 13, 14, 15, 16, 17, 18, 19, 20, 21, 22, 23, 24, 25, 26, 27, 28, 29, 30, 31, 32, 33, 34, 35, 36, 37, 38, 39, 40] rfl rfl
set_option maxRecDepth 20000 in
theorem gX8_nameHere_X8_byteAt : GoodIn wsX8_nameHere (wsV RX8 81 RX8 yX8_byteAt wsX8_byteAt) := goodIn_app (goodIn_of _ (by decide +kernel)) ggX8_nameHere_X8_byteAt
theorem dX8_nameHere_0 : decode cX8_nameHere 0 = .ok (.iconst 0, 1) := by decide +kernel
theorem dX8_nameHere_1 : decode cX8_nameHere 1 = .ok (.istore_n 1, 1) := by decide +kernel
theorem dX8_nameHere_2 : decode cX8_nameHere 2 = .ok (.iload_n 1, 1) := by decide +kernel
theorem dX8_nameHere_3 : decode cX8_nameHere 3 = .ok (.bipush 12, 2) := by decide +kernel
theorem dX8_nameHere_5 : decode cX8_nameHere 5 = .ok (.if_icmp .ge 113, 3) := by decide +kernel
theorem dX8_nameHere_8 : decode cX8_nameHere 8 = .ok (.aload_n 0, 1) := by decide +kernel
theorem dX8_nameHere_9 : decode cX8_nameHere 9 = .ok (.getfield 75, 3) := by decide +kernel
theorem dX8_nameHere_12 : decode cX8_nameHere 12 = .ok (.iconst 1, 1) := by decide +kernel
theorem dX8_nameHere_13 : decode cX8_nameHere 13 = .ok (.if_icmp .ne 105, 3) := by decide +kernel
theorem dX8_nameHere_16 : decode cX8_nameHere 16 = .ok (.aload_n 0, 1) := by decide +kernel
theorem dX8_nameHere_17 : decode cX8_nameHere 17 = .ok (.getfield 78, 3) := by decide +kernel
theorem dX8_nameHere_20 : decode cX8_nameHere 20 = .ok (.aload_n 0, 1) := by decide +kernel
theorem dX8_nameHere_21 : decode cX8_nameHere 21 = .ok (.getfield 69, 3) := by decide +kernel
theorem dX8_nameHere_24 : decode cX8_nameHere 24 = .ok (.isub, 1) := by decide +kernel
theorem dX8_nameHere_25 : decode cX8_nameHere 25 = .ok (.aload_n 0, 1) := by decide +kernel
theorem dX8_nameHere_26 : decode cX8_nameHere 26 = .ok (.getfield 16, 3) := by decide +kernel
theorem dX8_nameHere_29 : decode cX8_nameHere 29 = .ok (.iload_n 1, 1) := by decide +kernel
theorem dX8_nameHere_30 : decode cX8_nameHere 30 = .ok (.iconst 1, 1) := by decide +kernel
theorem dX8_nameHere_31 : decode cX8_nameHere 31 = .ok (.iadd, 1) := by decide +kernel
theorem dX8_nameHere_32 : decode cX8_nameHere 32 = .ok (.iaload, 1) := by decide +kernel
theorem dX8_nameHere_33 : decode cX8_nameHere 33 = .ok (.aload_n 0, 1) := by decide +kernel
theorem dX8_nameHere_34 : decode cX8_nameHere 34 = .ok (.getfield 16, 3) := by decide +kernel
theorem dX8_nameHere_37 : decode cX8_nameHere 37 = .ok (.iload_n 1, 1) := by decide +kernel
theorem dX8_nameHere_38 : decode cX8_nameHere 38 = .ok (.iaload, 1) := by decide +kernel
theorem dX8_nameHere_39 : decode cX8_nameHere 39 = .ok (.isub, 1) := by decide +kernel
theorem dX8_nameHere_40 : decode cX8_nameHere 40 = .ok (.if_icmp .ne 7, 3) := by decide +kernel
theorem dX8_nameHere_43 : decode cX8_nameHere 43 = .ok (.iconst 1, 1) := by decide +kernel
theorem dX8_nameHere_44 : decode cX8_nameHere 44 = .ok (.goto 4, 3) := by decide +kernel
theorem dX8_nameHere_47 : decode cX8_nameHere 47 = .ok (.iconst 0, 1) := by decide +kernel
theorem dX8_nameHere_48 : decode cX8_nameHere 48 = .ok (.istore_n 2, 1) := by decide +kernel
theorem dX8_nameHere_49 : decode cX8_nameHere 49 = .ok (.iconst 0, 1) := by decide +kernel
theorem dX8_nameHere_50 : decode cX8_nameHere 50 = .ok (.istore_n 3, 1) := by decide +kernel
theorem dX8_nameHere_51 : decode cX8_nameHere 51 = .ok (.iload_n 2, 1) := by decide +kernel
theorem dX8_nameHere_52 : decode cX8_nameHere 52 = .ok (.ifCond .eq 54, 3) := by decide +kernel
theorem dX8_nameHere_55 : decode cX8_nameHere 55 = .ok (.iload_n 3, 1) := by decide +kernel
theorem dX8_nameHere_56 : decode cX8_nameHere 56 = .ok (.aload_n 0, 1) := by decide +kernel
theorem dX8_nameHere_57 : decode cX8_nameHere 57 = .ok (.getfield 78, 3) := by decide +kernel
theorem dX8_nameHere_60 : decode cX8_nameHere 60 = .ok (.aload_n 0, 1) := by decide +kernel
theorem dX8_nameHere_61 : decode cX8_nameHere 61 = .ok (.getfield 69, 3) := by decide +kernel
theorem dX8_nameHere_64 : decode cX8_nameHere 64 = .ok (.isub, 1) := by decide +kernel
theorem dX8_nameHere_65 : decode cX8_nameHere 65 = .ok (.if_icmp .ge 41, 3) := by decide +kernel
theorem dX8_nameHere_68 : decode cX8_nameHere 68 = .ok (.aload_n 0, 1) := by decide +kernel
theorem dX8_nameHere_69 : decode cX8_nameHere 69 = .ok (.aload_n 0, 1) := by decide +kernel
theorem dX8_nameHere_70 : decode cX8_nameHere 70 = .ok (.getfield 69, 3) := by decide +kernel
theorem dX8_nameHere_73 : decode cX8_nameHere 73 = .ok (.iload_n 3, 1) := by decide +kernel
theorem dX8_nameHere_74 : decode cX8_nameHere 74 = .ok (.iadd, 1) := by decide +kernel
theorem dX8_nameHere_75 : decode cX8_nameHere 75 = .ok (.invokevirtual 81, 3) := by decide +kernel
theorem dX8_nameHere_78 : decode cX8_nameHere 78 = .ok (.aload_n 0, 1) := by decide +kernel
theorem dX8_nameHere_79 : decode cX8_nameHere 79 = .ok (.getfield 19, 3) := by decide +kernel
theorem dX8_nameHere_82 : decode cX8_nameHere 82 = .ok (.aload_n 0, 1) := by decide +kernel
theorem dX8_nameHere_83 : decode cX8_nameHere 83 = .ok (.getfield 16, 3) := by decide +kernel
theorem dX8_nameHere_86 : decode cX8_nameHere 86 = .ok (.iload_n 1, 1) := by decide +kernel
theorem dX8_nameHere_87 : decode cX8_nameHere 87 = .ok (.iaload, 1) := by decide +kernel
theorem dX8_nameHere_88 : decode cX8_nameHere 88 = .ok (.iload_n 3, 1) := by decide +kernel
theorem dX8_nameHere_89 : decode cX8_nameHere 89 = .ok (.iadd, 1) := by decide +kernel
theorem dX8_nameHere_90 : decode cX8_nameHere 90 = .ok (.iaload, 1) := by decide +kernel
theorem dX8_nameHere_91 : decode cX8_nameHere 91 = .ok (.if_icmp .ne 7, 3) := by decide +kernel
theorem dX8_nameHere_94 : decode cX8_nameHere 94 = .ok (.iconst 1, 1) := by decide +kernel
theorem dX8_nameHere_95 : decode cX8_nameHere 95 = .ok (.goto 4, 3) := by decide +kernel
theorem dX8_nameHere_98 : decode cX8_nameHere 98 = .ok (.iconst 0, 1) := by decide +kernel
theorem dX8_nameHere_99 : decode cX8_nameHere 99 = .ok (.istore_n 2, 1) := by decide +kernel
theorem dX8_nameHere_100 : decode cX8_nameHere 100 = .ok (.iinc 3 1, 3) := by decide +kernel
theorem dX8_nameHere_103 : decode cX8_nameHere 103 = .ok (.goto (-52), 3) := by decide +kernel
theorem dX8_nameHere_106 : decode cX8_nameHere 106 = .ok (.iload_n 2, 1) := by decide +kernel
theorem dX8_nameHere_107 : decode cX8_nameHere 107 = .ok (.ifCond .eq 5, 3) := by decide +kernel
theorem dX8_nameHere_110 : decode cX8_nameHere 110 = .ok (.iload_n 1, 1) := by decide +kernel
theorem dX8_nameHere_111 : decode cX8_nameHere 111 = .ok (.ireturn, 1) := by decide +kernel
theorem dX8_nameHere_112 : decode cX8_nameHere 112 = .ok (.iinc 1 1, 3) := by decide +kernel
theorem dX8_nameHere_115 : decode cX8_nameHere 115 = .ok (.goto (-113), 3) := by decide +kernel
theorem dX8_nameHere_118 : decode cX8_nameHere 118 = .ok (.bipush (-4), 2) := by decide +kernel
theorem dX8_nameHere_120 : decode cX8_nameHere 120 = .ok (.ireturn, 1) := by decide +kernel
set_option maxRecDepth 20000 in
theorem ggX8_readsOn_X8_byteAt : GoodIn wsX8_readsOn wsX8_byteAt := goodIn_r _ [14, 15, 16, 25, 26, 27, 28, 29, 30, 31, 32, 33, 34, 35, 36, 37, 38, 39, 40, 41, 42, 43, 44, 45, 46, 47, 48, 49, 50, 51, 52] rfl rfl
set_option maxRecDepth 20000 in
theorem gX8_readsOn_X8_byteAt : GoodIn wsX8_readsOn (wsV RX8 81 RX8 yX8_byteAt wsX8_byteAt) := goodIn_app (goodIn_of _ (by decide +kernel)) ggX8_readsOn_X8_byteAt
set_option maxRecDepth 20000 in
theorem ggX8_readsOn_X8_in : GoodIn wsX8_readsOn wsX8_in := goodIn_r _ [19] rfl rfl
set_option maxRecDepth 20000 in
theorem gX8_readsOn_X8_in : GoodIn wsX8_readsOn (va_wsS RX8 58 yX8_in wsX8_in) := goodIn_app (goodIn_of _ (by decide +kernel)) ggX8_readsOn_X8_in
set_option maxRecDepth 20000 in
theorem ggX8_readsOn_X8_fails : GoodIn wsX8_readsOn wsX8_fails := goodIn_r _ [23, 1, 3, 24, 25, 26, 27, 28, 29, 30, 31, 32, 33, 34, 35, 36, 37, 38, 39, 40, 41, 42, 43, 44, 45, 46, 47, 48, 49, 50, 51, 52] rfl rfl
set_option maxRecDepth 20000 in
theorem gX8_readsOn_X8_fails : GoodIn wsX8_readsOn (wsV RX8 96 RX8 yX8_fails wsX8_fails) := goodIn_app (goodIn_of _ (by decide +kernel)) ggX8_readsOn_X8_fails
theorem dX8_readsOn_0 : decode cX8_readsOn 0 = .ok (.aload_n 0, 1) := by decide +kernel
theorem dX8_readsOn_1 : decode cX8_readsOn 1 = .ok (.getfield 66, 3) := by decide +kernel
theorem dX8_readsOn_4 : decode cX8_readsOn 4 = .ok (.ifCond .le 4, 3) := by decide +kernel
theorem dX8_readsOn_7 : decode cX8_readsOn 7 = .ok (.return_, 1) := by decide +kernel
theorem dX8_readsOn_8 : decode cX8_readsOn 8 = .ok (.aload_n 0, 1) := by decide +kernel
theorem dX8_readsOn_9 : decode cX8_readsOn 9 = .ok (.aload_n 0, 1) := by decide +kernel
theorem dX8_readsOn_10 : decode cX8_readsOn 10 = .ok (.getfield 78, 3) := by decide +kernel
theorem dX8_readsOn_13 : decode cX8_readsOn 13 = .ok (.invokevirtual 81, 3) := by decide +kernel
theorem dX8_readsOn_16 : decode cX8_readsOn 16 = .ok (.bipush 32, 2) := by decide +kernel
theorem dX8_readsOn_18 : decode cX8_readsOn 18 = .ok (.if_icmp .ne 16, 3) := by decide +kernel
theorem dX8_readsOn_21 : decode cX8_readsOn 21 = .ok (.aload_n 0, 1) := by decide +kernel
theorem dX8_readsOn_22 : decode cX8_readsOn 22 = .ok (.dup, 1) := by decide +kernel
theorem dX8_readsOn_23 : decode cX8_readsOn 23 = .ok (.getfield 78, 3) := by decide +kernel
theorem dX8_readsOn_26 : decode cX8_readsOn 26 = .ok (.iconst 1, 1) := by decide +kernel
theorem dX8_readsOn_27 : decode cX8_readsOn 27 = .ok (.iadd, 1) := by decide +kernel
theorem dX8_readsOn_28 : decode cX8_readsOn 28 = .ok (.putfield 78, 3) := by decide +kernel
theorem dX8_readsOn_31 : decode cX8_readsOn 31 = .ok (.goto (-23), 3) := by decide +kernel
theorem dX8_readsOn_34 : decode cX8_readsOn 34 = .ok (.aload_n 0, 1) := by decide +kernel
theorem dX8_readsOn_35 : decode cX8_readsOn 35 = .ok (.aload_n 0, 1) := by decide +kernel
theorem dX8_readsOn_36 : decode cX8_readsOn 36 = .ok (.getfield 78, 3) := by decide +kernel
theorem dX8_readsOn_39 : decode cX8_readsOn 39 = .ok (.putfield 69, 3) := by decide +kernel
theorem dX8_readsOn_42 : decode cX8_readsOn 42 = .ok (.aload_n 0, 1) := by decide +kernel
theorem dX8_readsOn_43 : decode cX8_readsOn 43 = .ok (.aload_n 0, 1) := by decide +kernel
theorem dX8_readsOn_44 : decode cX8_readsOn 44 = .ok (.getfield 78, 3) := by decide +kernel
theorem dX8_readsOn_47 : decode cX8_readsOn 47 = .ok (.invokevirtual 81, 3) := by decide +kernel
theorem dX8_readsOn_50 : decode cX8_readsOn 50 = .ok (.istore_n 1, 1) := by decide +kernel
theorem dX8_readsOn_51 : decode cX8_readsOn 51 = .ok (.aload_n 0, 1) := by decide +kernel
theorem dX8_readsOn_52 : decode cX8_readsOn 52 = .ok (.iconst 0, 1) := by decide +kernel
theorem dX8_readsOn_53 : decode cX8_readsOn 53 = .ok (.putfield 85, 3) := by decide +kernel
theorem dX8_readsOn_56 : decode cX8_readsOn 56 = .ok (.iload_n 1, 1) := by decide +kernel
theorem dX8_readsOn_57 : decode cX8_readsOn 57 = .ok (.bipush (-4), 2) := by decide +kernel
theorem dX8_readsOn_59 : decode cX8_readsOn 59 = .ok (.if_icmp .ne 11, 3) := by decide +kernel
theorem dX8_readsOn_62 : decode cX8_readsOn 62 = .ok (.aload_n 0, 1) := by decide +kernel
theorem dX8_readsOn_63 : decode cX8_readsOn 63 = .ok (.iconst 0, 1) := by decide +kernel
theorem dX8_readsOn_64 : decode cX8_readsOn 64 = .ok (.putfield 75, 3) := by decide +kernel
theorem dX8_readsOn_67 : decode cX8_readsOn 67 = .ok (.goto 202, 3) := by decide +kernel
theorem dX8_readsOn_70 : decode cX8_readsOn 70 = .ok (.iload_n 1, 1) := by decide +kernel
theorem dX8_readsOn_71 : decode cX8_readsOn 71 = .ok (.i2l, 1) := by decide +kernel
theorem dX8_readsOn_72 : decode cX8_readsOn 72 = .ok (.ldc2_w 88, 3) := by decide +kernel
theorem dX8_readsOn_75 : decode cX8_readsOn 75 = .ok (.ldc2_w 90, 3) := by decide +kernel
theorem dX8_readsOn_78 : decode cX8_readsOn 78 = .ok (.invokestatic 58, 3) := by decide +kernel
theorem dX8_readsOn_81 : decode cX8_readsOn 81 = .ok (.ifCond .eq 45, 3) := by decide +kernel
theorem dX8_readsOn_84 : decode cX8_readsOn 84 = .ok (.aload_n 0, 1) := by decide +kernel
theorem dX8_readsOn_85 : decode cX8_readsOn 85 = .ok (.aload_n 0, 1) := by decide +kernel
theorem dX8_readsOn_86 : decode cX8_readsOn 86 = .ok (.getfield 78, 3) := by decide +kernel
theorem dX8_readsOn_89 : decode cX8_readsOn 89 = .ok (.invokevirtual 81, 3) := by decide +kernel
theorem dX8_readsOn_92 : decode cX8_readsOn 92 = .ok (.i2l, 1) := by decide +kernel
theorem dX8_readsOn_93 : decode cX8_readsOn 93 = .ok (.ldc2_w 88, 3) := by decide +kernel
theorem dX8_readsOn_96 : decode cX8_readsOn 96 = .ok (.ldc2_w 90, 3) := by decide +kernel
theorem dX8_readsOn_99 : decode cX8_readsOn 99 = .ok (.invokestatic 58, 3) := by decide +kernel
theorem dX8_readsOn_102 : decode cX8_readsOn 102 = .ok (.ifCond .eq 16, 3) := by decide +kernel
theorem dX8_readsOn_105 : decode cX8_readsOn 105 = .ok (.aload_n 0, 1) := by decide +kernel
theorem dX8_readsOn_106 : decode cX8_readsOn 106 = .ok (.dup, 1) := by decide +kernel
theorem dX8_readsOn_107 : decode cX8_readsOn 107 = .ok (.getfield 78, 3) := by decide +kernel
theorem dX8_readsOn_110 : decode cX8_readsOn 110 = .ok (.iconst 1, 1) := by decide +kernel
theorem dX8_readsOn_111 : decode cX8_readsOn 111 = .ok (.iadd, 1) := by decide +kernel
theorem dX8_readsOn_112 : decode cX8_readsOn 112 = .ok (.putfield 78, 3) := by decide +kernel
theorem dX8_readsOn_115 : decode cX8_readsOn 115 = .ok (.goto (-31), 3) := by decide +kernel
theorem dX8_readsOn_118 : decode cX8_readsOn 118 = .ok (.aload_n 0, 1) := by decide +kernel
theorem dX8_readsOn_119 : decode cX8_readsOn 119 = .ok (.iconst 1, 1) := by decide +kernel
theorem dX8_readsOn_120 : decode cX8_readsOn 120 = .ok (.putfield 75, 3) := by decide +kernel
theorem dX8_readsOn_123 : decode cX8_readsOn 123 = .ok (.goto 146, 3) := by decide +kernel
theorem dX8_readsOn_126 : decode cX8_readsOn 126 = .ok (.iload_n 1, 1) := by decide +kernel
theorem dX8_readsOn_127 : decode cX8_readsOn 127 = .ok (.i2l, 1) := by decide +kernel
theorem dX8_readsOn_128 : decode cX8_readsOn 128 = .ok (.ldc2_w 92, 3) := by decide +kernel
theorem dX8_readsOn_131 : decode cX8_readsOn 131 = .ok (.ldc2_w 94, 3) := by decide +kernel
theorem dX8_readsOn_134 : decode cX8_readsOn 134 = .ok (.invokestatic 58, 3) := by decide +kernel
theorem dX8_readsOn_137 : decode cX8_readsOn 137 = .ok (.ifCond .eq 106, 3) := by decide +kernel
theorem dX8_readsOn_140 : decode cX8_readsOn 140 = .ok (.aload_n 0, 1) := by decide +kernel
theorem dX8_readsOn_141 : decode cX8_readsOn 141 = .ok (.aload_n 0, 1) := by decide +kernel
theorem dX8_readsOn_142 : decode cX8_readsOn 142 = .ok (.getfield 78, 3) := by decide +kernel
theorem dX8_readsOn_145 : decode cX8_readsOn 145 = .ok (.invokevirtual 81, 3) := by decide +kernel
theorem dX8_readsOn_148 : decode cX8_readsOn 148 = .ok (.i2l, 1) := by decide +kernel
theorem dX8_readsOn_149 : decode cX8_readsOn 149 = .ok (.ldc2_w 92, 3) := by decide +kernel
theorem dX8_readsOn_152 : decode cX8_readsOn 152 = .ok (.ldc2_w 94, 3) := by decide +kernel
theorem dX8_readsOn_155 : decode cX8_readsOn 155 = .ok (.invokestatic 58, 3) := by decide +kernel
theorem dX8_readsOn_158 : decode cX8_readsOn 158 = .ok (.ifCond .eq 59, 3) := by decide +kernel
theorem dX8_readsOn_161 : decode cX8_readsOn 161 = .ok (.aload_n 0, 1) := by decide +kernel
theorem dX8_readsOn_162 : decode cX8_readsOn 162 = .ok (.aload_n 0, 1) := by decide +kernel
theorem dX8_readsOn_163 : decode cX8_readsOn 163 = .ok (.getfield 78, 3) := by decide +kernel
theorem dX8_readsOn_166 : decode cX8_readsOn 166 = .ok (.aload_n 0, 1) := by decide +kernel
theorem dX8_readsOn_167 : decode cX8_readsOn 167 = .ok (.getfield 69, 3) := by decide +kernel
theorem dX8_readsOn_170 : decode cX8_readsOn 170 = .ok (.isub, 1) := by decide +kernel
theorem dX8_readsOn_171 : decode cX8_readsOn 171 = .ok (.iconst 3, 1) := by decide +kernel
theorem dX8_readsOn_172 : decode cX8_readsOn 172 = .ok (.if_icmp .ge 25, 3) := by decide +kernel
theorem dX8_readsOn_175 : decode cX8_readsOn 175 = .ok (.bipush 10, 2) := by decide +kernel
theorem dX8_readsOn_177 : decode cX8_readsOn 177 = .ok (.aload_n 0, 1) := by decide +kernel
theorem dX8_readsOn_178 : decode cX8_readsOn 178 = .ok (.getfield 85, 3) := by decide +kernel
theorem dX8_readsOn_181 : decode cX8_readsOn 181 = .ok (.imul, 1) := by decide +kernel
theorem dX8_readsOn_182 : decode cX8_readsOn 182 = .ok (.aload_n 0, 1) := by decide +kernel
theorem dX8_readsOn_183 : decode cX8_readsOn 183 = .ok (.aload_n 0, 1) := by decide +kernel
theorem dX8_readsOn_184 : decode cX8_readsOn 184 = .ok (.getfield 78, 3) := by decide +kernel
theorem dX8_readsOn_187 : decode cX8_readsOn 187 = .ok (.invokevirtual 81, 3) := by decide +kernel
theorem dX8_readsOn_190 : decode cX8_readsOn 190 = .ok (.iadd, 1) := by decide +kernel
theorem dX8_readsOn_191 : decode cX8_readsOn 191 = .ok (.bipush 48, 2) := by decide +kernel
theorem dX8_readsOn_193 : decode cX8_readsOn 193 = .ok (.isub, 1) := by decide +kernel
theorem dX8_readsOn_194 : decode cX8_readsOn 194 = .ok (.goto 7, 3) := by decide +kernel
theorem dX8_readsOn_197 : decode cX8_readsOn 197 = .ok (.aload_n 0, 1) := by decide +kernel
theorem dX8_readsOn_198 : decode cX8_readsOn 198 = .ok (.getfield 85, 3) := by decide +kernel
theorem dX8_readsOn_201 : decode cX8_readsOn 201 = .ok (.putfield 85, 3) := by decide +kernel
theorem dX8_readsOn_204 : decode cX8_readsOn 204 = .ok (.aload_n 0, 1) := by decide +kernel
theorem dX8_readsOn_205 : decode cX8_readsOn 205 = .ok (.dup, 1) := by decide +kernel
theorem dX8_readsOn_206 : decode cX8_readsOn 206 = .ok (.getfield 78, 3) := by decide +kernel
theorem dX8_readsOn_209 : decode cX8_readsOn 209 = .ok (.iconst 1, 1) := by decide +kernel
theorem dX8_readsOn_210 : decode cX8_readsOn 210 = .ok (.iadd, 1) := by decide +kernel
theorem dX8_readsOn_211 : decode cX8_readsOn 211 = .ok (.putfield 78, 3) := by decide +kernel
theorem dX8_readsOn_214 : decode cX8_readsOn 214 = .ok (.goto (-74), 3) := by decide +kernel
theorem dX8_readsOn_217 : decode cX8_readsOn 217 = .ok (.aload_n 0, 1) := by decide +kernel
theorem dX8_readsOn_218 : decode cX8_readsOn 218 = .ok (.iconst 2, 1) := by decide +kernel
theorem dX8_readsOn_219 : decode cX8_readsOn 219 = .ok (.putfield 75, 3) := by decide +kernel
theorem dX8_readsOn_222 : decode cX8_readsOn 222 = .ok (.aload_n 0, 1) := by decide +kernel
theorem dX8_readsOn_223 : decode cX8_readsOn 223 = .ok (.getfield 78, 3) := by decide +kernel
theorem dX8_readsOn_226 : decode cX8_readsOn 226 = .ok (.aload_n 0, 1) := by decide +kernel
theorem dX8_readsOn_227 : decode cX8_readsOn 227 = .ok (.getfield 69, 3) := by decide +kernel
theorem dX8_readsOn_230 : decode cX8_readsOn 230 = .ok (.isub, 1) := by decide +kernel
theorem dX8_readsOn_231 : decode cX8_readsOn 231 = .ok (.iconst 3, 1) := by decide +kernel
theorem dX8_readsOn_232 : decode cX8_readsOn 232 = .ok (.if_icmp .le 37, 3) := by decide +kernel
theorem dX8_readsOn_235 : decode cX8_readsOn 235 = .ok (.aload_n 0, 1) := by decide +kernel
theorem dX8_readsOn_236 : decode cX8_readsOn 236 = .ok (.iconst 1, 1) := by decide +kernel
theorem dX8_readsOn_237 : decode cX8_readsOn 237 = .ok (.invokevirtual 96, 3) := by decide +kernel
theorem dX8_readsOn_240 : decode cX8_readsOn 240 = .ok (.goto 29, 3) := by decide +kernel
theorem dX8_readsOn_243 : decode cX8_readsOn 243 = .ok (.aload_n 0, 1) := by decide +kernel
theorem dX8_readsOn_244 : decode cX8_readsOn 244 = .ok (.iconst 3, 1) := by decide +kernel
theorem dX8_readsOn_245 : decode cX8_readsOn 245 = .ok (.putfield 75, 3) := by decide +kernel
theorem dX8_readsOn_248 : decode cX8_readsOn 248 = .ok (.aload_n 0, 1) := by decide +kernel
theorem dX8_readsOn_249 : decode cX8_readsOn 249 = .ok (.dup, 1) := by decide +kernel
theorem dX8_readsOn_250 : decode cX8_readsOn 250 = .ok (.getfield 78, 3) := by decide +kernel
theorem dX8_readsOn_253 : decode cX8_readsOn 253 = .ok (.iconst 1, 1) := by decide +kernel
theorem dX8_readsOn_254 : decode cX8_readsOn 254 = .ok (.iadd, 1) := by decide +kernel
theorem dX8_readsOn_255 : decode cX8_readsOn 255 = .ok (.putfield 78, 3) := by decide +kernel
theorem dX8_readsOn_258 : decode cX8_readsOn 258 = .ok (.iload_n 1, 1) := by decide +kernel
theorem dX8_readsOn_259 : decode cX8_readsOn 259 = .ok (.bipush 59, 2) := by decide +kernel
theorem dX8_readsOn_261 : decode cX8_readsOn 261 = .ok (.if_icmp .eq 8, 3) := by decide +kernel
theorem dX8_readsOn_264 : decode cX8_readsOn 264 = .ok (.aload_n 0, 1) := by decide +kernel
theorem dX8_readsOn_265 : decode cX8_readsOn 265 = .ok (.iconst 1, 1) := by decide +kernel
theorem dX8_readsOn_266 : decode cX8_readsOn 266 = .ok (.invokevirtual 96, 3) := by decide +kernel
theorem dX8_readsOn_269 : decode cX8_readsOn 269 = .ok (.return_, 1) := by decide +kernel
set_option maxRecDepth 20000 in
theorem ggX8_numberRead_X8_fails : GoodIn wsX8_numberRead wsX8_fails := goodIn_r _ [8, 1, 9, 10, 29, 30, 31, 32, 33, 34, 35, 36, 37, 38, 39, 40, 41, 42, 43, 44, 45, 46, 47, 48, 49, 50, 51, 52, 53, 54, 55, 56] rfl rfl
set_option maxRecDepth 20000 in
theorem gX8_numberRead_X8_fails : GoodIn wsX8_numberRead (wsV RX8 96 RX8 yX8_fails wsX8_fails) := goodIn_app (goodIn_of _ (by decide +kernel)) ggX8_numberRead_X8_fails
set_option maxRecDepth 20000 in
theorem ggX8_numberRead_X8_in : GoodIn wsX8_numberRead wsX8_in := goodIn_r _ [13] rfl rfl
set_option maxRecDepth 20000 in
theorem gX8_numberRead_X8_in : GoodIn wsX8_numberRead (va_wsS RX8 58 yX8_in wsX8_in) := goodIn_app (goodIn_of _ (by decide +kernel)) ggX8_numberRead_X8_in
set_option maxRecDepth 20000 in
theorem ggX8_numberRead_X8_readsOn : GoodIn wsX8_numberRead wsX8_readsOn := goodIn_r _ [17, 1, 18, 9, 3, 2, 19, 20, 21, 22, 23, 24, 25, 7, 26, 27, 28, 11, 12, 13, 4, 5, 6, 8, 10, 29, 30, 31, 32, 33, 34, 35, 36, 37, 38, 39, 40, 41, 42, 43, 44, 45, 46, 47, 48, 49, 50, 51, 52, 53, 54, 55, 56] rfl rfl
set_option maxRecDepth 20000 in
theorem gX8_numberRead_X8_readsOn : GoodIn wsX8_numberRead (wsV RX8 100 RX8 yX8_readsOn wsX8_readsOn) := goodIn_app (goodIn_of _ (by decide +kernel)) ggX8_numberRead_X8_readsOn
theorem dX8_numberRead_0 : decode cX8_numberRead 0 = .ok (.aload_n 0, 1) := by decide +kernel
theorem dX8_numberRead_1 : decode cX8_numberRead 1 = .ok (.getfield 66, 3) := by decide +kernel
theorem dX8_numberRead_4 : decode cX8_numberRead 4 = .ok (.ifCond .ne 16, 3) := by decide +kernel
theorem dX8_numberRead_7 : decode cX8_numberRead 7 = .ok (.aload_n 0, 1) := by decide +kernel
theorem dX8_numberRead_8 : decode cX8_numberRead 8 = .ok (.getfield 75, 3) := by decide +kernel
theorem dX8_numberRead_11 : decode cX8_numberRead 11 = .ok (.iconst 2, 1) := by decide +kernel
theorem dX8_numberRead_12 : decode cX8_numberRead 12 = .ok (.if_icmp .eq 8, 3) := by decide +kernel
theorem dX8_numberRead_15 : decode cX8_numberRead 15 = .ok (.aload_n 0, 1) := by decide +kernel
theorem dX8_numberRead_16 : decode cX8_numberRead 16 = .ok (.iconst 2, 1) := by decide +kernel
theorem dX8_numberRead_17 : decode cX8_numberRead 17 = .ok (.invokevirtual 96, 3) := by decide +kernel
theorem dX8_numberRead_20 : decode cX8_numberRead 20 = .ok (.aload_n 0, 1) := by decide +kernel
theorem dX8_numberRead_21 : decode cX8_numberRead 21 = .ok (.getfield 66, 3) := by decide +kernel
theorem dX8_numberRead_24 : decode cX8_numberRead 24 = .ok (.ifCond .ne 23, 3) := by decide +kernel
theorem dX8_numberRead_27 : decode cX8_numberRead 27 = .ok (.aload_n 0, 1) := by decide +kernel
theorem dX8_numberRead_28 : decode cX8_numberRead 28 = .ok (.getfield 85, 3) := by decide +kernel
theorem dX8_numberRead_31 : decode cX8_numberRead 31 = .ok (.i2l, 1) := by decide +kernel
theorem dX8_numberRead_32 : decode cX8_numberRead 32 = .ok (.iload_n 1, 1) := by decide +kernel
theorem dX8_numberRead_33 : decode cX8_numberRead 33 = .ok (.i2l, 1) := by decide +kernel
theorem dX8_numberRead_34 : decode cX8_numberRead 34 = .ok (.iload_n 2, 1) := by decide +kernel
theorem dX8_numberRead_35 : decode cX8_numberRead 35 = .ok (.i2l, 1) := by decide +kernel
theorem dX8_numberRead_36 : decode cX8_numberRead 36 = .ok (.invokestatic 58, 3) := by decide +kernel
theorem dX8_numberRead_39 : decode cX8_numberRead 39 = .ok (.ifCond .ne 8, 3) := by decide +kernel
theorem dX8_numberRead_42 : decode cX8_numberRead 42 = .ok (.aload_n 0, 1) := by decide +kernel
theorem dX8_numberRead_43 : decode cX8_numberRead 43 = .ok (.iconst 3, 1) := by decide +kernel
theorem dX8_numberRead_44 : decode cX8_numberRead 44 = .ok (.invokevirtual 96, 3) := by decide +kernel
theorem dX8_numberRead_47 : decode cX8_numberRead 47 = .ok (.aload_n 0, 1) := by decide +kernel
theorem dX8_numberRead_48 : decode cX8_numberRead 48 = .ok (.getfield 66, 3) := by decide +kernel
theorem dX8_numberRead_51 : decode cX8_numberRead 51 = .ok (.ifCond .ne 10, 3) := by decide +kernel
theorem dX8_numberRead_54 : decode cX8_numberRead 54 = .ok (.aload_n 0, 1) := by decide +kernel
theorem dX8_numberRead_55 : decode cX8_numberRead 55 = .ok (.getfield 85, 3) := by decide +kernel
theorem dX8_numberRead_58 : decode cX8_numberRead 58 = .ok (.goto 4, 3) := by decide +kernel
theorem dX8_numberRead_61 : decode cX8_numberRead 61 = .ok (.iload_n 1, 1) := by decide +kernel
theorem dX8_numberRead_62 : decode cX8_numberRead 62 = .ok (.istore_n 3, 1) := by decide +kernel
theorem dX8_numberRead_63 : decode cX8_numberRead 63 = .ok (.aload_n 0, 1) := by decide +kernel
theorem dX8_numberRead_64 : decode cX8_numberRead 64 = .ok (.invokevirtual 100, 3) := by decide +kernel
theorem dX8_numberRead_67 : decode cX8_numberRead 67 = .ok (.iload_n 3, 1) := by decide +kernel
theorem dX8_numberRead_68 : decode cX8_numberRead 68 = .ok (.ireturn, 1) := by decide +kernel
set_option maxRecDepth 20000 in
theorem ggX8_registerRead_X8_byteAt : GoodIn wsX8_registerRead wsX8_byteAt := goodIn_r _ [11, 12, 13, 30, 31, 32, 33, 34, 35, 36, 37, 38, 39, 40, 41, 42, 43, 44, 45, 46, 47, 48, 49, 50, 51, 52, 53, 54, 55, 56, 57] rfl rfl
set_option maxRecDepth 20000 in
theorem gX8_registerRead_X8_byteAt : GoodIn wsX8_registerRead (wsV RX8 81 RX8 yX8_byteAt wsX8_byteAt) := goodIn_app (goodIn_of _ (by decide +kernel)) ggX8_registerRead_X8_byteAt
set_option maxRecDepth 20000 in
theorem ggX8_registerRead_X8_in : GoodIn wsX8_registerRead wsX8_in := goodIn_r _ [16] rfl rfl
set_option maxRecDepth 20000 in
theorem gX8_registerRead_X8_in : GoodIn wsX8_registerRead (va_wsS RX8 58 yX8_in wsX8_in) := goodIn_app (goodIn_of _ (by decide +kernel)) ggX8_registerRead_X8_in
set_option maxRecDepth 20000 in
theorem ggX8_registerRead_X8_fails : GoodIn wsX8_registerRead wsX8_fails := goodIn_r _ [20, 6, 1, 21, 30, 31, 32, 33, 34, 35, 36, 37, 38, 39, 40, 41, 42, 43, 44, 45, 46, 47, 48, 49, 50, 51, 52, 53, 54, 55, 56, 57] rfl rfl
set_option maxRecDepth 20000 in
theorem gX8_registerRead_X8_fails : GoodIn wsX8_registerRead (wsV RX8 96 RX8 yX8_fails wsX8_fails) := goodIn_app (goodIn_of _ (by decide +kernel)) ggX8_registerRead_X8_fails
set_option maxRecDepth 20000 in
theorem ggX8_registerRead_X8_readsOn : GoodIn wsX8_registerRead wsX8_readsOn := goodIn_r _ [25, 6, 3, 1, 26, 2, 4, 27, 28, 29, 7, 8, 9, 10, 11, 12, 13, 14, 15, 16, 17, 18, 19, 20, 21, 30, 31, 32, 33, 34, 35, 36, 37, 38, 39, 40, 41, 42, 43, 44, 45, 46, 47, 48, 49, 50, 51, 52, 53, 54, 55, 56, 57] rfl rfl
set_option maxRecDepth 20000 in
theorem gX8_registerRead_X8_readsOn : GoodIn wsX8_registerRead (wsV RX8 100 RX8 yX8_readsOn wsX8_readsOn) := goodIn_app (goodIn_of _ (by decide +kernel)) ggX8_registerRead_X8_readsOn
theorem dX8_registerRead_0 : decode cX8_registerRead 0 = .ok (.aload_n 0, 1) := by decide +kernel
theorem dX8_registerRead_1 : decode cX8_registerRead 1 = .ok (.aload_n 0, 1) := by decide +kernel
theorem dX8_registerRead_2 : decode cX8_registerRead 2 = .ok (.getfield 69, 3) := by decide +kernel
theorem dX8_registerRead_5 : decode cX8_registerRead 5 = .ok (.invokevirtual 81, 3) := by decide +kernel
theorem dX8_registerRead_8 : decode cX8_registerRead 8 = .ok (.istore_n 2, 1) := by decide +kernel
theorem dX8_registerRead_9 : decode cX8_registerRead 9 = .ok (.aload_n 0, 1) := by decide +kernel
theorem dX8_registerRead_10 : decode cX8_registerRead 10 = .ok (.getfield 75, 3) := by decide +kernel
theorem dX8_registerRead_13 : decode cX8_registerRead 13 = .ok (.iconst 1, 1) := by decide +kernel
theorem dX8_registerRead_14 : decode cX8_registerRead 14 = .ok (.if_icmp .ne 46, 3) := by decide +kernel
theorem dX8_registerRead_17 : decode cX8_registerRead 17 = .ok (.aload_n 0, 1) := by decide +kernel
theorem dX8_registerRead_18 : decode cX8_registerRead 18 = .ok (.getfield 78, 3) := by decide +kernel
theorem dX8_registerRead_21 : decode cX8_registerRead 21 = .ok (.aload_n 0, 1) := by decide +kernel
theorem dX8_registerRead_22 : decode cX8_registerRead 22 = .ok (.getfield 69, 3) := by decide +kernel
theorem dX8_registerRead_25 : decode cX8_registerRead 25 = .ok (.isub, 1) := by decide +kernel
theorem dX8_registerRead_26 : decode cX8_registerRead 26 = .ok (.iconst 1, 1) := by decide +kernel
theorem dX8_registerRead_27 : decode cX8_registerRead 27 = .ok (.if_icmp .ne 33, 3) := by decide +kernel
theorem dX8_registerRead_30 : decode cX8_registerRead 30 = .ok (.iload_n 2, 1) := by decide +kernel
theorem dX8_registerRead_31 : decode cX8_registerRead 31 = .ok (.i2l, 1) := by decide +kernel
theorem dX8_registerRead_32 : decode cX8_registerRead 32 = .ok (.ldc2_w 88, 3) := by decide +kernel
theorem dX8_registerRead_35 : decode cX8_registerRead 35 = .ok (.ldc2_w 103, 3) := by decide +kernel
theorem dX8_registerRead_38 : decode cX8_registerRead 38 = .ok (.invokestatic 58, 3) := by decide +kernel
theorem dX8_registerRead_41 : decode cX8_registerRead 41 = .ok (.ifCond .ne 15, 3) := by decide +kernel
theorem dX8_registerRead_44 : decode cX8_registerRead 44 = .ok (.iload_n 2, 1) := by decide +kernel
theorem dX8_registerRead_45 : decode cX8_registerRead 45 = .ok (.bipush 115, 2) := by decide +kernel
theorem dX8_registerRead_47 : decode cX8_registerRead 47 = .ok (.if_icmp .eq 9, 3) := by decide +kernel
theorem dX8_registerRead_50 : decode cX8_registerRead 50 = .ok (.iload_n 2, 1) := by decide +kernel
theorem dX8_registerRead_51 : decode cX8_registerRead 51 = .ok (.bipush 112, 2) := by decide +kernel
theorem dX8_registerRead_53 : decode cX8_registerRead 53 = .ok (.if_icmp .ne 7, 3) := by decide +kernel
theorem dX8_registerRead_56 : decode cX8_registerRead 56 = .ok (.iconst 1, 1) := by decide +kernel
theorem dX8_registerRead_57 : decode cX8_registerRead 57 = .ok (.goto 4, 3) := by decide +kernel
theorem dX8_registerRead_60 : decode cX8_registerRead 60 = .ok (.iconst 0, 1) := by decide +kernel
theorem dX8_registerRead_61 : decode cX8_registerRead 61 = .ok (.istore_n 3, 1) := by decide +kernel
theorem dX8_registerRead_62 : decode cX8_registerRead 62 = .ok (.aload_n 0, 1) := by decide +kernel
theorem dX8_registerRead_63 : decode cX8_registerRead 63 = .ok (.getfield 66, 3) := by decide +kernel
theorem dX8_registerRead_66 : decode cX8_registerRead 66 = .ok (.ifCond .ne 12, 3) := by decide +kernel
theorem dX8_registerRead_69 : decode cX8_registerRead 69 = .ok (.iload_n 3, 1) := by decide +kernel
theorem dX8_registerRead_70 : decode cX8_registerRead 70 = .ok (.ifCond .ne 8, 3) := by decide +kernel
theorem dX8_registerRead_73 : decode cX8_registerRead 73 = .ok (.aload_n 0, 1) := by decide +kernel
theorem dX8_registerRead_74 : decode cX8_registerRead 74 = .ok (.iconst 2, 1) := by decide +kernel
theorem dX8_registerRead_75 : decode cX8_registerRead 75 = .ok (.invokevirtual 96, 3) := by decide +kernel
theorem dX8_registerRead_78 : decode cX8_registerRead 78 = .ok (.iload_n 2, 1) := by decide +kernel
theorem dX8_registerRead_79 : decode cX8_registerRead 79 = .ok (.bipush 115, 2) := by decide +kernel
theorem dX8_registerRead_81 : decode cX8_registerRead 81 = .ok (.if_icmp .ne 7, 3) := by decide +kernel
theorem dX8_registerRead_84 : decode cX8_registerRead 84 = .ok (.iconst 4, 1) := by decide +kernel
theorem dX8_registerRead_85 : decode cX8_registerRead 85 = .ok (.goto 17, 3) := by decide +kernel
theorem dX8_registerRead_88 : decode cX8_registerRead 88 = .ok (.iload_n 2, 1) := by decide +kernel
theorem dX8_registerRead_89 : decode cX8_registerRead 89 = .ok (.bipush 112, 2) := by decide +kernel
theorem dX8_registerRead_91 : decode cX8_registerRead 91 = .ok (.if_icmp .ne 7, 3) := by decide +kernel
theorem dX8_registerRead_94 : decode cX8_registerRead 94 = .ok (.iconst 5, 1) := by decide +kernel
theorem dX8_registerRead_95 : decode cX8_registerRead 95 = .ok (.goto 7, 3) := by decide +kernel
theorem dX8_registerRead_98 : decode cX8_registerRead 98 = .ok (.iload_n 2, 1) := by decide +kernel
theorem dX8_registerRead_99 : decode cX8_registerRead 99 = .ok (.bipush 97, 2) := by decide +kernel
theorem dX8_registerRead_101 : decode cX8_registerRead 101 = .ok (.isub, 1) := by decide +kernel
theorem dX8_registerRead_102 : decode cX8_registerRead 102 = .ok (.istore 4, 2) := by decide +kernel
theorem dX8_registerRead_104 : decode cX8_registerRead 104 = .ok (.aload_n 0, 1) := by decide +kernel
theorem dX8_registerRead_105 : decode cX8_registerRead 105 = .ok (.getfield 66, 3) := by decide +kernel
theorem dX8_registerRead_108 : decode cX8_registerRead 108 = .ok (.ifCond .ne 14, 3) := by decide +kernel
theorem dX8_registerRead_111 : decode cX8_registerRead 111 = .ok (.iload 4, 2) := by decide +kernel
theorem dX8_registerRead_113 : decode cX8_registerRead 113 = .ok (.iload_n 1, 1) := by decide +kernel
theorem dX8_registerRead_114 : decode cX8_registerRead 114 = .ok (.if_icmp .ne 8, 3) := by decide +kernel
theorem dX8_registerRead_117 : decode cX8_registerRead 117 = .ok (.aload_n 0, 1) := by decide +kernel
theorem dX8_registerRead_118 : decode cX8_registerRead 118 = .ok (.iconst 4, 1) := by decide +kernel
theorem dX8_registerRead_119 : decode cX8_registerRead 119 = .ok (.invokevirtual 96, 3) := by decide +kernel
theorem dX8_registerRead_122 : decode cX8_registerRead 122 = .ok (.aload_n 0, 1) := by decide +kernel
theorem dX8_registerRead_123 : decode cX8_registerRead 123 = .ok (.invokevirtual 100, 3) := by decide +kernel
theorem dX8_registerRead_126 : decode cX8_registerRead 126 = .ok (.aload_n 0, 1) := by decide +kernel
theorem dX8_registerRead_127 : decode cX8_registerRead 127 = .ok (.getfield 66, 3) := by decide +kernel
theorem dX8_registerRead_130 : decode cX8_registerRead 130 = .ok (.ifCond .ne 8, 3) := by decide +kernel
theorem dX8_registerRead_133 : decode cX8_registerRead 133 = .ok (.iload 4, 2) := by decide +kernel
theorem dX8_registerRead_135 : decode cX8_registerRead 135 = .ok (.goto 4, 3) := by decide +kernel
theorem dX8_registerRead_138 : decode cX8_registerRead 138 = .ok (.iconst 0, 1) := by decide +kernel
theorem dX8_registerRead_139 : decode cX8_registerRead 139 = .ok (.ireturn, 1) := by decide +kernel
set_option maxRecDepth 20000 in
theorem ggX8_readRoutine_X8_fails : GoodIn wsX8_readRoutine wsX8_fails := goodIn_r _ [6, 7, 8, 9, 34, 35, 36, 37, 38, 39, 40, 41, 42, 43, 44, 45, 46, 47, 48, 49, 50, 51, 52, 53, 54, 55, 56, 57, 58, 59, 60, 61] rfl rfl
set_option maxRecDepth 20000 in
theorem gX8_readRoutine_X8_fails : GoodIn wsX8_readRoutine (wsV RX8 96 RX8 yX8_fails wsX8_fails) := goodIn_app (goodIn_of _ (by decide +kernel)) ggX8_readRoutine_X8_fails
set_option maxRecDepth 20000 in
theorem ggX8_readRoutine_X8_readsOn : GoodIn wsX8_readRoutine wsX8_readsOn := goodIn_r _ [13, 7, 14, 8, 15, 16, 17, 18, 19, 20, 21, 22, 23, 5, 24, 25, 26, 27, 28, 29, 2, 3, 4, 6, 9, 34, 35, 36, 37, 38, 39, 40, 41, 42, 43, 44, 45, 46, 47, 48, 49, 50, 51, 52, 53, 54, 55, 56, 57, 58, 59, 60, 61] rfl rfl
set_option maxRecDepth 20000 in
theorem gX8_readRoutine_X8_readsOn : GoodIn wsX8_readRoutine (wsV RX8 100 RX8 yX8_readsOn wsX8_readsOn) := goodIn_app (goodIn_of _ (by decide +kernel)) ggX8_readRoutine_X8_readsOn
set_option maxRecDepth 20000 in
theorem ggX8_readRoutine_X8_numberRead : GoodIn wsX8_readRoutine wsX8_numberRead := goodIn_r _ [33, 7, 16, 15, 2, 3, 4, 5, 6, 8, 9, 27, 28, 29, 10, 11, 12, 13, 14, 17, 18, 19, 20, 21, 22, 23, 24, 25, 26, 34, 35, 36, 37, 38, 39, 40, 41, 42, 43, 44, 45, 46, 47, 48, 49, 50, 51, 52, 53, 54, 55, 56, 57, 58, 59, 60, 61] rfl rfl
set_option maxRecDepth 20000 in
theorem gX8_readRoutine_X8_numberRead : GoodIn wsX8_readRoutine (wsV RX8 105 RX8 yX8_numberRead wsX8_numberRead) := goodIn_app (goodIn_of _ (by decide +kernel)) ggX8_readRoutine_X8_numberRead
theorem dX8_readRoutine_0 : decode cX8_readRoutine 0 = .ok (.aload_n 0, 1) := by decide +kernel
theorem dX8_readRoutine_1 : decode cX8_readRoutine 1 = .ok (.getfield 7, 3) := by decide +kernel
theorem dX8_readRoutine_4 : decode cX8_readRoutine 4 = .ok (.sipush 1358, 3) := by decide +kernel
theorem dX8_readRoutine_7 : decode cX8_readRoutine 7 = .ok (.iaload, 1) := by decide +kernel
theorem dX8_readRoutine_8 : decode cX8_readRoutine 8 = .ok (.istore_n 2, 1) := by decide +kernel
theorem dX8_readRoutine_9 : decode cX8_readRoutine 9 = .ok (.iload_n 2, 1) := by decide +kernel
theorem dX8_readRoutine_10 : decode cX8_readRoutine 10 = .ok (.bipush 8, 2) := by decide +kernel
theorem dX8_readRoutine_12 : decode cX8_readRoutine 12 = .ok (.if_icmp .ne 9, 3) := by decide +kernel
theorem dX8_readRoutine_15 : decode cX8_readRoutine 15 = .ok (.aload_n 0, 1) := by decide +kernel
theorem dX8_readRoutine_16 : decode cX8_readRoutine 16 = .ok (.iconst 5, 1) := by decide +kernel
theorem dX8_readRoutine_17 : decode cX8_readRoutine 17 = .ok (.invokevirtual 96, 3) := by decide +kernel
theorem dX8_readRoutine_20 : decode cX8_readRoutine 20 = .ok (.return_, 1) := by decide +kernel
theorem dX8_readRoutine_21 : decode cX8_readRoutine 21 = .ok (.aload_n 0, 1) := by decide +kernel
theorem dX8_readRoutine_22 : decode cX8_readRoutine 22 = .ok (.invokevirtual 100, 3) := by decide +kernel
theorem dX8_readRoutine_25 : decode cX8_readRoutine 25 = .ok (.aload_n 0, 1) := by decide +kernel
theorem dX8_readRoutine_26 : decode cX8_readRoutine 26 = .ok (.iconst 0, 1) := by decide +kernel
theorem dX8_readRoutine_27 : decode cX8_readRoutine 27 = .ok (.sipush 999, 3) := by decide +kernel
theorem dX8_readRoutine_30 : decode cX8_readRoutine 30 = .ok (.invokevirtual 105, 3) := by decide +kernel
theorem dX8_readRoutine_33 : decode cX8_readRoutine 33 = .ok (.istore_n 3, 1) := by decide +kernel
theorem dX8_readRoutine_34 : decode cX8_readRoutine 34 = .ok (.aload_n 0, 1) := by decide +kernel
theorem dX8_readRoutine_35 : decode cX8_readRoutine 35 = .ok (.getfield 7, 3) := by decide +kernel
theorem dX8_readRoutine_38 : decode cX8_readRoutine 38 = .ok (.sipush 1062, 3) := by decide +kernel
theorem dX8_readRoutine_41 : decode cX8_readRoutine 41 = .ok (.iload_n 2, 1) := by decide +kernel
theorem dX8_readRoutine_42 : decode cX8_readRoutine 42 = .ok (.iadd, 1) := by decide +kernel
theorem dX8_readRoutine_43 : decode cX8_readRoutine 43 = .ok (.iload_n 3, 1) := by decide +kernel
theorem dX8_readRoutine_44 : decode cX8_readRoutine 44 = .ok (.iastore, 1) := by decide +kernel
theorem dX8_readRoutine_45 : decode cX8_readRoutine 45 = .ok (.aload_n 0, 1) := by decide +kernel
theorem dX8_readRoutine_46 : decode cX8_readRoutine 46 = .ok (.getfield 7, 3) := by decide +kernel
theorem dX8_readRoutine_49 : decode cX8_readRoutine 49 = .ok (.sipush 1070, 3) := by decide +kernel
theorem dX8_readRoutine_52 : decode cX8_readRoutine 52 = .ok (.iload_n 2, 1) := by decide +kernel
theorem dX8_readRoutine_53 : decode cX8_readRoutine 53 = .ok (.iadd, 1) := by decide +kernel
theorem dX8_readRoutine_54 : decode cX8_readRoutine 54 = .ok (.aload_n 0, 1) := by decide +kernel
theorem dX8_readRoutine_55 : decode cX8_readRoutine 55 = .ok (.iload_n 3, 1) := by decide +kernel
theorem dX8_readRoutine_56 : decode cX8_readRoutine 56 = .ok (.sipush 999, 3) := by decide +kernel
theorem dX8_readRoutine_59 : decode cX8_readRoutine 59 = .ok (.invokevirtual 105, 3) := by decide +kernel
theorem dX8_readRoutine_62 : decode cX8_readRoutine 62 = .ok (.iastore, 1) := by decide +kernel
theorem dX8_readRoutine_63 : decode cX8_readRoutine 63 = .ok (.aload_n 0, 1) := by decide +kernel
theorem dX8_readRoutine_64 : decode cX8_readRoutine 64 = .ok (.getfield 7, 3) := by decide +kernel
theorem dX8_readRoutine_67 : decode cX8_readRoutine 67 = .ok (.sipush 1078, 3) := by decide +kernel
theorem dX8_readRoutine_70 : decode cX8_readRoutine 70 = .ok (.iload_n 2, 1) := by decide +kernel
theorem dX8_readRoutine_71 : decode cX8_readRoutine 71 = .ok (.iadd, 1) := by decide +kernel
theorem dX8_readRoutine_72 : decode cX8_readRoutine 72 = .ok (.iload_n 1, 1) := by decide +kernel
theorem dX8_readRoutine_73 : decode cX8_readRoutine 73 = .ok (.iastore, 1) := by decide +kernel
theorem dX8_readRoutine_74 : decode cX8_readRoutine 74 = .ok (.aload_n 0, 1) := by decide +kernel
theorem dX8_readRoutine_75 : decode cX8_readRoutine 75 = .ok (.getfield 7, 3) := by decide +kernel
theorem dX8_readRoutine_78 : decode cX8_readRoutine 78 = .ok (.sipush 1358, 3) := by decide +kernel
theorem dX8_readRoutine_81 : decode cX8_readRoutine 81 = .ok (.dup2, 1) := by decide +kernel
theorem dX8_readRoutine_82 : decode cX8_readRoutine 82 = .ok (.iaload, 1) := by decide +kernel
theorem dX8_readRoutine_83 : decode cX8_readRoutine 83 = .ok (.iconst 1, 1) := by decide +kernel
theorem dX8_readRoutine_84 : decode cX8_readRoutine 84 = .ok (.iadd, 1) := by decide +kernel
theorem dX8_readRoutine_85 : decode cX8_readRoutine 85 = .ok (.iastore, 1) := by decide +kernel
theorem dX8_readRoutine_86 : decode cX8_readRoutine 86 = .ok (.return_, 1) := by decide +kernel
set_option maxRecDepth 20000 in
theorem ggX8_readOp_X8_fails : GoodIn wsX8_readOp wsX8_fails := goodIn_r _ [8, 9, 10, 11, 41, 42, 43, 44, 45, 46, 47, 48, 49, 50, 51, 52, 53, 54, 55, 56, 57, 58, 59, 60, 61, 62, 63, 64, 65, 66, 67, 68] rfl rfl
set_option maxRecDepth 20000 in
theorem gX8_readOp_X8_fails : GoodIn wsX8_readOp (wsV RX8 96 RX8 yX8_fails wsX8_fails) := goodIn_app (goodIn_of _ (by decide +kernel)) ggX8_readOp_X8_fails
set_option maxRecDepth 20000 in
theorem ggX8_readOp_X8_readsOn : GoodIn wsX8_readOp wsX8_readsOn := goodIn_r _ [15, 9, 16, 10, 17, 18, 19, 20, 21, 22, 23, 24, 25, 7, 26, 27, 28, 29, 30, 31, 4, 5, 6, 8, 11, 41, 42, 43, 44, 45, 46, 47, 48, 49, 50, 51, 52, 53, 54, 55, 56, 57, 58, 59, 60, 61, 62, 63, 64, 65, 66, 67, 68] rfl rfl
set_option maxRecDepth 20000 in
theorem gX8_readOp_X8_readsOn : GoodIn wsX8_readOp (wsV RX8 100 RX8 yX8_readsOn wsX8_readsOn) := goodIn_app (goodIn_of _ (by decide +kernel)) ggX8_readOp_X8_readsOn
set_option maxRecDepth 20000 in
theorem ggX8_readOp_X8_in : GoodIn wsX8_readOp wsX8_in := goodIn_r _ [31] rfl rfl
set_option maxRecDepth 20000 in
theorem gX8_readOp_X8_in : GoodIn wsX8_readOp (va_wsS RX8 58 yX8_in wsX8_in) := goodIn_app (goodIn_of _ (by decide +kernel)) ggX8_readOp_X8_in
set_option maxRecDepth 20000 in
theorem ggX8_readOp_X8_registerRead : GoodIn wsX8_readOp wsX8_registerRead := goodIn_r _ [35, 10, 18, 16, 19, 36, 9, 23, 24, 25, 7, 26, 27, 28, 29, 30, 31, 4, 5, 6, 8, 11, 12, 13, 14, 15, 17, 20, 21, 22, 41, 42, 43, 44, 45, 46, 47, 48, 49, 50, 51, 52, 53, 54, 55, 56, 57, 58, 59, 60, 61, 62, 63, 64, 65, 66, 67, 68] rfl rfl
set_option maxRecDepth 20000 in
theorem gX8_readOp_X8_registerRead : GoodIn wsX8_readOp (wsV RX8 113 RX8 yX8_registerRead wsX8_registerRead) := goodIn_app (goodIn_of _ (by decide +kernel)) ggX8_readOp_X8_registerRead
set_option maxRecDepth 20000 in
theorem ggX8_readOp_X8_numberRead : GoodIn wsX8_readOp wsX8_numberRead := goodIn_r _ [40, 9, 18, 17, 4, 5, 6, 7, 8, 10, 11, 29, 30, 31, 12, 13, 14, 15, 16, 19, 20, 21, 22, 23, 24, 25, 26, 27, 28, 41, 42, 43, 44, 45, 46, 47, 48, 49, 50, 51, 52, 53, 54, 55, 56, 57, 58, 59, 60, 61, 62, 63, 64, 65, 66, 67, 68] rfl rfl
set_option maxRecDepth 20000 in
theorem gX8_readOp_X8_numberRead : GoodIn wsX8_readOp (wsV RX8 105 RX8 yX8_numberRead wsX8_numberRead) := goodIn_app (goodIn_of _ (by decide +kernel)) ggX8_readOp_X8_numberRead
theorem dX8_readOp_0 : decode cX8_readOp 0 = .ok (.aload_n 0, 1) := by decide +kernel
theorem dX8_readOp_1 : decode cX8_readOp 1 = .ok (.getfield 7, 3) := by decide +kernel
theorem dX8_readOp_4 : decode cX8_readOp 4 = .ok (.sipush 1359, 3) := by decide +kernel
theorem dX8_readOp_7 : decode cX8_readOp 7 = .ok (.iaload, 1) := by decide +kernel
theorem dX8_readOp_8 : decode cX8_readOp 8 = .ok (.istore_n 2, 1) := by decide +kernel
theorem dX8_readOp_9 : decode cX8_readOp 9 = .ok (.iload_n 2, 1) := by decide +kernel
theorem dX8_readOp_10 : decode cX8_readOp 10 = .ok (.bipush 40, 2) := by decide +kernel
theorem dX8_readOp_12 : decode cX8_readOp 12 = .ok (.if_icmp .eq 14, 3) := by decide +kernel
theorem dX8_readOp_15 : decode cX8_readOp 15 = .ok (.aload_n 0, 1) := by decide +kernel
theorem dX8_readOp_16 : decode cX8_readOp 16 = .ok (.getfield 7, 3) := by decide +kernel
theorem dX8_readOp_19 : decode cX8_readOp 19 = .ok (.sipush 1358, 3) := by decide +kernel
theorem dX8_readOp_22 : decode cX8_readOp 22 = .ok (.iaload, 1) := by decide +kernel
theorem dX8_readOp_23 : decode cX8_readOp 23 = .ok (.ifCond .ne 9, 3) := by decide +kernel
theorem dX8_readOp_26 : decode cX8_readOp 26 = .ok (.aload_n 0, 1) := by decide +kernel
theorem dX8_readOp_27 : decode cX8_readOp 27 = .ok (.iconst 5, 1) := by decide +kernel
theorem dX8_readOp_28 : decode cX8_readOp 28 = .ok (.invokevirtual 96, 3) := by decide +kernel
theorem dX8_readOp_31 : decode cX8_readOp 31 = .ok (.return_, 1) := by decide +kernel
theorem dX8_readOp_32 : decode cX8_readOp 32 = .ok (.aload_n 0, 1) := by decide +kernel
theorem dX8_readOp_33 : decode cX8_readOp 33 = .ok (.invokevirtual 100, 3) := by decide +kernel
theorem dX8_readOp_36 : decode cX8_readOp 36 = .ok (.iload_n 1, 1) := by decide +kernel
theorem dX8_readOp_37 : decode cX8_readOp 37 = .ok (.iconst 1, 1) := by decide +kernel
theorem dX8_readOp_38 : decode cX8_readOp 38 = .ok (.if_icmp .eq 17, 3) := by decide +kernel
theorem dX8_readOp_41 : decode cX8_readOp 41 = .ok (.iload_n 1, 1) := by decide +kernel
theorem dX8_readOp_42 : decode cX8_readOp 42 = .ok (.i2l, 1) := by decide +kernel
theorem dX8_readOp_43 : decode cX8_readOp 43 = .ok (.ldc2_w 109, 3) := by decide +kernel
theorem dX8_readOp_46 : decode cX8_readOp 46 = .ok (.ldc2_w 111, 3) := by decide +kernel
theorem dX8_readOp_49 : decode cX8_readOp 49 = .ok (.invokestatic 58, 3) := by decide +kernel
theorem dX8_readOp_52 : decode cX8_readOp 52 = .ok (.ifCond .eq 7, 3) := by decide +kernel
theorem dX8_readOp_55 : decode cX8_readOp 55 = .ok (.iconst 1, 1) := by decide +kernel
theorem dX8_readOp_56 : decode cX8_readOp 56 = .ok (.goto 4, 3) := by decide +kernel
theorem dX8_readOp_59 : decode cX8_readOp 59 = .ok (.iconst 0, 1) := by decide +kernel
theorem dX8_readOp_60 : decode cX8_readOp 60 = .ok (.istore_n 3, 1) := by decide +kernel
theorem dX8_readOp_61 : decode cX8_readOp 61 = .ok (.aload_n 0, 1) := by decide +kernel
theorem dX8_readOp_62 : decode cX8_readOp 62 = .ok (.getfield 7, 3) := by decide +kernel
theorem dX8_readOp_65 : decode cX8_readOp 65 = .ok (.sipush 1086, 3) := by decide +kernel
theorem dX8_readOp_68 : decode cX8_readOp 68 = .ok (.iload_n 2, 1) := by decide +kernel
theorem dX8_readOp_69 : decode cX8_readOp 69 = .ok (.iadd, 1) := by decide +kernel
theorem dX8_readOp_70 : decode cX8_readOp 70 = .ok (.iload_n 1, 1) := by decide +kernel
theorem dX8_readOp_71 : decode cX8_readOp 71 = .ok (.iastore, 1) := by decide +kernel
theorem dX8_readOp_72 : decode cX8_readOp 72 = .ok (.aload_n 0, 1) := by decide +kernel
theorem dX8_readOp_73 : decode cX8_readOp 73 = .ok (.getfield 7, 3) := by decide +kernel
theorem dX8_readOp_76 : decode cX8_readOp 76 = .ok (.sipush 1126, 3) := by decide +kernel
theorem dX8_readOp_79 : decode cX8_readOp 79 = .ok (.iload_n 2, 1) := by decide +kernel
theorem dX8_readOp_80 : decode cX8_readOp 80 = .ok (.iadd, 1) := by decide +kernel
theorem dX8_readOp_81 : decode cX8_readOp 81 = .ok (.iload_n 3, 1) := by decide +kernel
theorem dX8_readOp_82 : decode cX8_readOp 82 = .ok (.ifCond .eq 20, 3) := by decide +kernel
theorem dX8_readOp_85 : decode cX8_readOp 85 = .ok (.aload_n 0, 1) := by decide +kernel
theorem dX8_readOp_86 : decode cX8_readOp 86 = .ok (.iload_n 1, 1) := by decide +kernel
theorem dX8_readOp_87 : decode cX8_readOp 87 = .ok (.iconst 1, 1) := by decide +kernel
theorem dX8_readOp_88 : decode cX8_readOp 88 = .ok (.if_icmp .ne 7, 3) := by decide +kernel
theorem dX8_readOp_91 : decode cX8_readOp 91 = .ok (.iconst 5, 1) := by decide +kernel
theorem dX8_readOp_92 : decode cX8_readOp 92 = .ok (.goto 4, 3) := by decide +kernel
theorem dX8_readOp_95 : decode cX8_readOp 95 = .ok (.iconst 4, 1) := by decide +kernel
theorem dX8_readOp_96 : decode cX8_readOp 96 = .ok (.invokevirtual 113, 3) := by decide +kernel
theorem dX8_readOp_99 : decode cX8_readOp 99 = .ok (.goto 5, 3) := by decide +kernel
theorem dX8_readOp_102 : decode cX8_readOp 102 = .ok (.bipush (-4), 2) := by decide +kernel
theorem dX8_readOp_104 : decode cX8_readOp 104 = .ok (.iastore, 1) := by decide +kernel
theorem dX8_readOp_105 : decode cX8_readOp 105 = .ok (.aload_n 0, 1) := by decide +kernel
theorem dX8_readOp_106 : decode cX8_readOp 106 = .ok (.getfield 7, 3) := by decide +kernel
theorem dX8_readOp_109 : decode cX8_readOp 109 = .ok (.sipush 1166, 3) := by decide +kernel
theorem dX8_readOp_112 : decode cX8_readOp 112 = .ok (.iload_n 2, 1) := by decide +kernel
theorem dX8_readOp_113 : decode cX8_readOp 113 = .ok (.iadd, 1) := by decide +kernel
theorem dX8_readOp_114 : decode cX8_readOp 114 = .ok (.iload_n 1, 1) := by decide +kernel
theorem dX8_readOp_115 : decode cX8_readOp 115 = .ok (.i2l, 1) := by decide +kernel
theorem dX8_readOp_116 : decode cX8_readOp 116 = .ok (.lconst 0, 1) := by decide +kernel
theorem dX8_readOp_117 : decode cX8_readOp 117 = .ok (.ldc2_w 109, 3) := by decide +kernel
theorem dX8_readOp_120 : decode cX8_readOp 120 = .ok (.invokestatic 58, 3) := by decide +kernel
theorem dX8_readOp_123 : decode cX8_readOp 123 = .ok (.ifCond .eq 13, 3) := by decide +kernel
theorem dX8_readOp_126 : decode cX8_readOp 126 = .ok (.aload_n 0, 1) := by decide +kernel
theorem dX8_readOp_127 : decode cX8_readOp 127 = .ok (.iconst 0, 1) := by decide +kernel
theorem dX8_readOp_128 : decode cX8_readOp 128 = .ok (.bipush 99, 2) := by decide +kernel
theorem dX8_readOp_130 : decode cX8_readOp 130 = .ok (.invokevirtual 105, 3) := by decide +kernel
theorem dX8_readOp_133 : decode cX8_readOp 133 = .ok (.goto 19, 3) := by decide +kernel
theorem dX8_readOp_136 : decode cX8_readOp 136 = .ok (.iload_n 1, 1) := by decide +kernel
theorem dX8_readOp_137 : decode cX8_readOp 137 = .ok (.iconst 5, 1) := by decide +kernel
theorem dX8_readOp_138 : decode cX8_readOp 138 = .ok (.if_icmp .ne 12, 3) := by decide +kernel
theorem dX8_readOp_141 : decode cX8_readOp 141 = .ok (.aload_n 0, 1) := by decide +kernel
theorem dX8_readOp_142 : decode cX8_readOp 142 = .ok (.bipush (-4), 2) := by decide +kernel
theorem dX8_readOp_144 : decode cX8_readOp 144 = .ok (.invokevirtual 113, 3) := by decide +kernel
theorem dX8_readOp_147 : decode cX8_readOp 147 = .ok (.goto 5, 3) := by decide +kernel
theorem dX8_readOp_150 : decode cX8_readOp 150 = .ok (.bipush (-4), 2) := by decide +kernel
theorem dX8_readOp_152 : decode cX8_readOp 152 = .ok (.iastore, 1) := by decide +kernel
theorem dX8_readOp_153 : decode cX8_readOp 153 = .ok (.aload_n 0, 1) := by decide +kernel
theorem dX8_readOp_154 : decode cX8_readOp 154 = .ok (.getfield 7, 3) := by decide +kernel
theorem dX8_readOp_157 : decode cX8_readOp 157 = .ok (.sipush 1206, 3) := by decide +kernel
theorem dX8_readOp_160 : decode cX8_readOp 160 = .ok (.iload_n 2, 1) := by decide +kernel
theorem dX8_readOp_161 : decode cX8_readOp 161 = .ok (.iadd, 1) := by decide +kernel
theorem dX8_readOp_162 : decode cX8_readOp 162 = .ok (.aload_n 0, 1) := by decide +kernel
theorem dX8_readOp_163 : decode cX8_readOp 163 = .ok (.getfield 7, 3) := by decide +kernel
theorem dX8_readOp_166 : decode cX8_readOp 166 = .ok (.sipush 1358, 3) := by decide +kernel
theorem dX8_readOp_169 : decode cX8_readOp 169 = .ok (.iaload, 1) := by decide +kernel
theorem dX8_readOp_170 : decode cX8_readOp 170 = .ok (.iconst 1, 1) := by decide +kernel
theorem dX8_readOp_171 : decode cX8_readOp 171 = .ok (.isub, 1) := by decide +kernel
theorem dX8_readOp_172 : decode cX8_readOp 172 = .ok (.iastore, 1) := by decide +kernel
theorem dX8_readOp_173 : decode cX8_readOp 173 = .ok (.aload_n 0, 1) := by decide +kernel
theorem dX8_readOp_174 : decode cX8_readOp 174 = .ok (.getfield 7, 3) := by decide +kernel
theorem dX8_readOp_177 : decode cX8_readOp 177 = .ok (.sipush 1359, 3) := by decide +kernel
theorem dX8_readOp_180 : decode cX8_readOp 180 = .ok (.dup2, 1) := by decide +kernel
theorem dX8_readOp_181 : decode cX8_readOp 181 = .ok (.iaload, 1) := by decide +kernel
theorem dX8_readOp_182 : decode cX8_readOp 182 = .ok (.iconst 1, 1) := by decide +kernel
theorem dX8_readOp_183 : decode cX8_readOp 183 = .ok (.iadd, 1) := by decide +kernel
theorem dX8_readOp_184 : decode cX8_readOp 184 = .ok (.iastore, 1) := by decide +kernel
theorem dX8_readOp_185 : decode cX8_readOp 185 = .ok (.return_, 1) := by decide +kernel
set_option maxRecDepth 20000 in
theorem ggX8_readLanding_X8_fails : GoodIn wsX8_readLanding wsX8_fails := goodIn_r _ [6, 7, 8, 9, 34, 35, 36, 37, 38, 39, 40, 41, 42, 43, 44, 45, 46, 47, 48, 49, 50, 51, 52, 53, 54, 55, 56, 57, 58, 59, 60, 61] rfl rfl
set_option maxRecDepth 20000 in
theorem gX8_readLanding_X8_fails : GoodIn wsX8_readLanding (wsV RX8 96 RX8 yX8_fails wsX8_fails) := goodIn_app (goodIn_of _ (by decide +kernel)) ggX8_readLanding_X8_fails
set_option maxRecDepth 20000 in
theorem ggX8_readLanding_X8_readsOn : GoodIn wsX8_readLanding wsX8_readsOn := goodIn_r _ [13, 7, 14, 8, 15, 16, 17, 18, 19, 20, 21, 22, 23, 5, 24, 25, 26, 27, 28, 29, 2, 3, 4, 6, 9, 34, 35, 36, 37, 38, 39, 40, 41, 42, 43, 44, 45, 46, 47, 48, 49, 50, 51, 52, 53, 54, 55, 56, 57, 58, 59, 60, 61] rfl rfl
set_option maxRecDepth 20000 in
theorem gX8_readLanding_X8_readsOn : GoodIn wsX8_readLanding (wsV RX8 100 RX8 yX8_readsOn wsX8_readsOn) := goodIn_app (goodIn_of _ (by decide +kernel)) ggX8_readLanding_X8_readsOn
set_option maxRecDepth 20000 in
theorem ggX8_readLanding_X8_numberRead : GoodIn wsX8_readLanding wsX8_numberRead := goodIn_r _ [33, 7, 16, 15, 2, 3, 4, 5, 6, 8, 9, 27, 28, 29, 10, 11, 12, 13, 14, 17, 18, 19, 20, 21, 22, 23, 24, 25, 26, 34, 35, 36, 37, 38, 39, 40, 41, 42, 43, 44, 45, 46, 47, 48, 49, 50, 51, 52, 53, 54, 55, 56, 57, 58, 59, 60, 61] rfl rfl
set_option maxRecDepth 20000 in
theorem gX8_readLanding_X8_numberRead : GoodIn wsX8_readLanding (wsV RX8 105 RX8 yX8_numberRead wsX8_numberRead) := goodIn_app (goodIn_of _ (by decide +kernel)) ggX8_readLanding_X8_numberRead
theorem dX8_readLanding_0 : decode cX8_readLanding 0 = .ok (.aload_n 0, 1) := by decide +kernel
theorem dX8_readLanding_1 : decode cX8_readLanding 1 = .ok (.getfield 7, 3) := by decide +kernel
theorem dX8_readLanding_4 : decode cX8_readLanding 4 = .ok (.sipush 1360, 3) := by decide +kernel
theorem dX8_readLanding_7 : decode cX8_readLanding 7 = .ok (.iaload, 1) := by decide +kernel
theorem dX8_readLanding_8 : decode cX8_readLanding 8 = .ok (.istore_n 1, 1) := by decide +kernel
theorem dX8_readLanding_9 : decode cX8_readLanding 9 = .ok (.iload_n 1, 1) := by decide +kernel
theorem dX8_readLanding_10 : decode cX8_readLanding 10 = .ok (.bipush 16, 2) := by decide +kernel
theorem dX8_readLanding_12 : decode cX8_readLanding 12 = .ok (.if_icmp .eq 14, 3) := by decide +kernel
theorem dX8_readLanding_15 : decode cX8_readLanding 15 = .ok (.aload_n 0, 1) := by decide +kernel
theorem dX8_readLanding_16 : decode cX8_readLanding 16 = .ok (.getfield 7, 3) := by decide +kernel
theorem dX8_readLanding_19 : decode cX8_readLanding 19 = .ok (.sipush 1358, 3) := by decide +kernel
theorem dX8_readLanding_22 : decode cX8_readLanding 22 = .ok (.iaload, 1) := by decide +kernel
theorem dX8_readLanding_23 : decode cX8_readLanding 23 = .ok (.ifCond .ne 9, 3) := by decide +kernel
theorem dX8_readLanding_26 : decode cX8_readLanding 26 = .ok (.aload_n 0, 1) := by decide +kernel
theorem dX8_readLanding_27 : decode cX8_readLanding 27 = .ok (.iconst 5, 1) := by decide +kernel
theorem dX8_readLanding_28 : decode cX8_readLanding 28 = .ok (.invokevirtual 96, 3) := by decide +kernel
theorem dX8_readLanding_31 : decode cX8_readLanding 31 = .ok (.return_, 1) := by decide +kernel
theorem dX8_readLanding_32 : decode cX8_readLanding 32 = .ok (.aload_n 0, 1) := by decide +kernel
theorem dX8_readLanding_33 : decode cX8_readLanding 33 = .ok (.invokevirtual 100, 3) := by decide +kernel
theorem dX8_readLanding_36 : decode cX8_readLanding 36 = .ok (.sipush 1246, 3) := by decide +kernel
theorem dX8_readLanding_39 : decode cX8_readLanding 39 = .ok (.iconst 5, 1) := by decide +kernel
theorem dX8_readLanding_40 : decode cX8_readLanding 40 = .ok (.iload_n 1, 1) := by decide +kernel
theorem dX8_readLanding_41 : decode cX8_readLanding 41 = .ok (.imul, 1) := by decide +kernel
theorem dX8_readLanding_42 : decode cX8_readLanding 42 = .ok (.iadd, 1) := by decide +kernel
theorem dX8_readLanding_43 : decode cX8_readLanding 43 = .ok (.istore_n 2, 1) := by decide +kernel
theorem dX8_readLanding_44 : decode cX8_readLanding 44 = .ok (.aload_n 0, 1) := by decide +kernel
theorem dX8_readLanding_45 : decode cX8_readLanding 45 = .ok (.iconst 0, 1) := by decide +kernel
theorem dX8_readLanding_46 : decode cX8_readLanding 46 = .ok (.sipush 999, 3) := by decide +kernel
theorem dX8_readLanding_49 : decode cX8_readLanding 49 = .ok (.invokevirtual 105, 3) := by decide +kernel
theorem dX8_readLanding_52 : decode cX8_readLanding 52 = .ok (.istore_n 3, 1) := by decide +kernel
theorem dX8_readLanding_53 : decode cX8_readLanding 53 = .ok (.aload_n 0, 1) := by decide +kernel
theorem dX8_readLanding_54 : decode cX8_readLanding 54 = .ok (.getfield 7, 3) := by decide +kernel
theorem dX8_readLanding_57 : decode cX8_readLanding 57 = .ok (.iload_n 2, 1) := by decide +kernel
theorem dX8_readLanding_58 : decode cX8_readLanding 58 = .ok (.iload_n 3, 1) := by decide +kernel
theorem dX8_readLanding_59 : decode cX8_readLanding 59 = .ok (.iastore, 1) := by decide +kernel
theorem dX8_readLanding_60 : decode cX8_readLanding 60 = .ok (.aload_n 0, 1) := by decide +kernel
theorem dX8_readLanding_61 : decode cX8_readLanding 61 = .ok (.getfield 7, 3) := by decide +kernel
theorem dX8_readLanding_64 : decode cX8_readLanding 64 = .ok (.iload_n 2, 1) := by decide +kernel
theorem dX8_readLanding_65 : decode cX8_readLanding 65 = .ok (.iconst 1, 1) := by decide +kernel
theorem dX8_readLanding_66 : decode cX8_readLanding 66 = .ok (.iadd, 1) := by decide +kernel
theorem dX8_readLanding_67 : decode cX8_readLanding 67 = .ok (.aload_n 0, 1) := by decide +kernel
theorem dX8_readLanding_68 : decode cX8_readLanding 68 = .ok (.iload_n 3, 1) := by decide +kernel
theorem dX8_readLanding_69 : decode cX8_readLanding 69 = .ok (.sipush 999, 3) := by decide +kernel
theorem dX8_readLanding_72 : decode cX8_readLanding 72 = .ok (.invokevirtual 105, 3) := by decide +kernel
theorem dX8_readLanding_75 : decode cX8_readLanding 75 = .ok (.iastore, 1) := by decide +kernel
theorem dX8_readLanding_76 : decode cX8_readLanding 76 = .ok (.aload_n 0, 1) := by decide +kernel
theorem dX8_readLanding_77 : decode cX8_readLanding 77 = .ok (.getfield 7, 3) := by decide +kernel
theorem dX8_readLanding_80 : decode cX8_readLanding 80 = .ok (.iload_n 2, 1) := by decide +kernel
theorem dX8_readLanding_81 : decode cX8_readLanding 81 = .ok (.iconst 2, 1) := by decide +kernel
theorem dX8_readLanding_82 : decode cX8_readLanding 82 = .ok (.iadd, 1) := by decide +kernel
theorem dX8_readLanding_83 : decode cX8_readLanding 83 = .ok (.aload_n 0, 1) := by decide +kernel
theorem dX8_readLanding_84 : decode cX8_readLanding 84 = .ok (.iconst 0, 1) := by decide +kernel
theorem dX8_readLanding_85 : decode cX8_readLanding 85 = .ok (.bipush 10, 2) := by decide +kernel
theorem dX8_readLanding_87 : decode cX8_readLanding 87 = .ok (.invokevirtual 105, 3) := by decide +kernel
theorem dX8_readLanding_90 : decode cX8_readLanding 90 = .ok (.iastore, 1) := by decide +kernel
theorem dX8_readLanding_91 : decode cX8_readLanding 91 = .ok (.aload_n 0, 1) := by decide +kernel
theorem dX8_readLanding_92 : decode cX8_readLanding 92 = .ok (.getfield 7, 3) := by decide +kernel
theorem dX8_readLanding_95 : decode cX8_readLanding 95 = .ok (.iload_n 2, 1) := by decide +kernel
theorem dX8_readLanding_96 : decode cX8_readLanding 96 = .ok (.iconst 3, 1) := by decide +kernel
theorem dX8_readLanding_97 : decode cX8_readLanding 97 = .ok (.iadd, 1) := by decide +kernel
theorem dX8_readLanding_98 : decode cX8_readLanding 98 = .ok (.aload_n 0, 1) := by decide +kernel
theorem dX8_readLanding_99 : decode cX8_readLanding 99 = .ok (.iconst 0, 1) := by decide +kernel
theorem dX8_readLanding_100 : decode cX8_readLanding 100 = .ok (.sipush 999, 3) := by decide +kernel
theorem dX8_readLanding_103 : decode cX8_readLanding 103 = .ok (.invokevirtual 105, 3) := by decide +kernel
theorem dX8_readLanding_106 : decode cX8_readLanding 106 = .ok (.iastore, 1) := by decide +kernel
theorem dX8_readLanding_107 : decode cX8_readLanding 107 = .ok (.aload_n 0, 1) := by decide +kernel
theorem dX8_readLanding_108 : decode cX8_readLanding 108 = .ok (.getfield 7, 3) := by decide +kernel
theorem dX8_readLanding_111 : decode cX8_readLanding 111 = .ok (.iload_n 2, 1) := by decide +kernel
theorem dX8_readLanding_112 : decode cX8_readLanding 112 = .ok (.iconst 4, 1) := by decide +kernel
theorem dX8_readLanding_113 : decode cX8_readLanding 113 = .ok (.iadd, 1) := by decide +kernel
theorem dX8_readLanding_114 : decode cX8_readLanding 114 = .ok (.aload_n 0, 1) := by decide +kernel
theorem dX8_readLanding_115 : decode cX8_readLanding 115 = .ok (.getfield 7, 3) := by decide +kernel
theorem dX8_readLanding_118 : decode cX8_readLanding 118 = .ok (.sipush 1358, 3) := by decide +kernel
theorem dX8_readLanding_121 : decode cX8_readLanding 121 = .ok (.iaload, 1) := by decide +kernel
theorem dX8_readLanding_122 : decode cX8_readLanding 122 = .ok (.iconst 1, 1) := by decide +kernel
theorem dX8_readLanding_123 : decode cX8_readLanding 123 = .ok (.isub, 1) := by decide +kernel
theorem dX8_readLanding_124 : decode cX8_readLanding 124 = .ok (.iastore, 1) := by decide +kernel
theorem dX8_readLanding_125 : decode cX8_readLanding 125 = .ok (.aload_n 0, 1) := by decide +kernel
theorem dX8_readLanding_126 : decode cX8_readLanding 126 = .ok (.getfield 7, 3) := by decide +kernel
theorem dX8_readLanding_129 : decode cX8_readLanding 129 = .ok (.sipush 1360, 3) := by decide +kernel
theorem dX8_readLanding_132 : decode cX8_readLanding 132 = .ok (.dup2, 1) := by decide +kernel
theorem dX8_readLanding_133 : decode cX8_readLanding 133 = .ok (.iaload, 1) := by decide +kernel
theorem dX8_readLanding_134 : decode cX8_readLanding 134 = .ok (.iconst 1, 1) := by decide +kernel
theorem dX8_readLanding_135 : decode cX8_readLanding 135 = .ok (.iadd, 1) := by decide +kernel
theorem dX8_readLanding_136 : decode cX8_readLanding 136 = .ok (.iastore, 1) := by decide +kernel
theorem dX8_readLanding_137 : decode cX8_readLanding 137 = .ok (.return_, 1) := by decide +kernel
set_option maxRecDepth 20000 in
theorem ggX8_readCall_X8_fails : GoodIn wsX8_readCall wsX8_fails := goodIn_r _ [6, 7, 8, 9, 34, 35, 36, 37, 38, 39, 40, 41, 42, 43, 44, 45, 46, 47, 48, 49, 50, 51, 52, 53, 54, 55, 56, 57, 58, 59, 60, 61] rfl rfl
set_option maxRecDepth 20000 in
theorem gX8_readCall_X8_fails : GoodIn wsX8_readCall (wsV RX8 96 RX8 yX8_fails wsX8_fails) := goodIn_app (goodIn_of _ (by decide +kernel)) ggX8_readCall_X8_fails
set_option maxRecDepth 20000 in
theorem ggX8_readCall_X8_readsOn : GoodIn wsX8_readCall wsX8_readsOn := goodIn_r _ [13, 7, 14, 8, 15, 16, 17, 18, 19, 20, 21, 22, 23, 5, 24, 25, 26, 27, 28, 29, 2, 3, 4, 6, 9, 34, 35, 36, 37, 38, 39, 40, 41, 42, 43, 44, 45, 46, 47, 48, 49, 50, 51, 52, 53, 54, 55, 56, 57, 58, 59, 60, 61] rfl rfl
set_option maxRecDepth 20000 in
theorem gX8_readCall_X8_readsOn : GoodIn wsX8_readCall (wsV RX8 100 RX8 yX8_readsOn wsX8_readsOn) := goodIn_app (goodIn_of _ (by decide +kernel)) ggX8_readCall_X8_readsOn
set_option maxRecDepth 20000 in
theorem ggX8_readCall_X8_numberRead : GoodIn wsX8_readCall wsX8_numberRead := goodIn_r _ [33, 7, 16, 15, 2, 3, 4, 5, 6, 8, 9, 27, 28, 29, 10, 11, 12, 13, 14, 17, 18, 19, 20, 21, 22, 23, 24, 25, 26, 34, 35, 36, 37, 38, 39, 40, 41, 42, 43, 44, 45, 46, 47, 48, 49, 50, 51, 52, 53, 54, 55, 56, 57, 58, 59, 60, 61] rfl rfl
set_option maxRecDepth 20000 in
theorem gX8_readCall_X8_numberRead : GoodIn wsX8_readCall (wsV RX8 105 RX8 yX8_numberRead wsX8_numberRead) := goodIn_app (goodIn_of _ (by decide +kernel)) ggX8_readCall_X8_numberRead
theorem dX8_readCall_0 : decode cX8_readCall 0 = .ok (.aload_n 0, 1) := by decide +kernel
theorem dX8_readCall_1 : decode cX8_readCall 1 = .ok (.getfield 7, 3) := by decide +kernel
theorem dX8_readCall_4 : decode cX8_readCall 4 = .ok (.sipush 1361, 3) := by decide +kernel
theorem dX8_readCall_7 : decode cX8_readCall 7 = .ok (.iaload, 1) := by decide +kernel
theorem dX8_readCall_8 : decode cX8_readCall 8 = .ok (.istore_n 1, 1) := by decide +kernel
theorem dX8_readCall_9 : decode cX8_readCall 9 = .ok (.iload_n 1, 1) := by decide +kernel
theorem dX8_readCall_10 : decode cX8_readCall 10 = .ok (.bipush 16, 2) := by decide +kernel
theorem dX8_readCall_12 : decode cX8_readCall 12 = .ok (.if_icmp .ne 9, 3) := by decide +kernel
theorem dX8_readCall_15 : decode cX8_readCall 15 = .ok (.aload_n 0, 1) := by decide +kernel
theorem dX8_readCall_16 : decode cX8_readCall 16 = .ok (.iconst 5, 1) := by decide +kernel
theorem dX8_readCall_17 : decode cX8_readCall 17 = .ok (.invokevirtual 96, 3) := by decide +kernel
theorem dX8_readCall_20 : decode cX8_readCall 20 = .ok (.return_, 1) := by decide +kernel
theorem dX8_readCall_21 : decode cX8_readCall 21 = .ok (.aload_n 0, 1) := by decide +kernel
theorem dX8_readCall_22 : decode cX8_readCall 22 = .ok (.invokevirtual 100, 3) := by decide +kernel
theorem dX8_readCall_25 : decode cX8_readCall 25 = .ok (.aload_n 0, 1) := by decide +kernel
theorem dX8_readCall_26 : decode cX8_readCall 26 = .ok (.getfield 7, 3) := by decide +kernel
theorem dX8_readCall_29 : decode cX8_readCall 29 = .ok (.sipush 1326, 3) := by decide +kernel
theorem dX8_readCall_32 : decode cX8_readCall 32 = .ok (.iconst 2, 1) := by decide +kernel
theorem dX8_readCall_33 : decode cX8_readCall 33 = .ok (.iload_n 1, 1) := by decide +kernel
theorem dX8_readCall_34 : decode cX8_readCall 34 = .ok (.imul, 1) := by decide +kernel
theorem dX8_readCall_35 : decode cX8_readCall 35 = .ok (.iadd, 1) := by decide +kernel
theorem dX8_readCall_36 : decode cX8_readCall 36 = .ok (.aload_n 0, 1) := by decide +kernel
theorem dX8_readCall_37 : decode cX8_readCall 37 = .ok (.iconst 0, 1) := by decide +kernel
theorem dX8_readCall_38 : decode cX8_readCall 38 = .ok (.sipush 999, 3) := by decide +kernel
theorem dX8_readCall_41 : decode cX8_readCall 41 = .ok (.invokevirtual 105, 3) := by decide +kernel
theorem dX8_readCall_44 : decode cX8_readCall 44 = .ok (.iastore, 1) := by decide +kernel
theorem dX8_readCall_45 : decode cX8_readCall 45 = .ok (.aload_n 0, 1) := by decide +kernel
theorem dX8_readCall_46 : decode cX8_readCall 46 = .ok (.getfield 7, 3) := by decide +kernel
theorem dX8_readCall_49 : decode cX8_readCall 49 = .ok (.sipush 1326, 3) := by decide +kernel
theorem dX8_readCall_52 : decode cX8_readCall 52 = .ok (.iconst 2, 1) := by decide +kernel
theorem dX8_readCall_53 : decode cX8_readCall 53 = .ok (.iload_n 1, 1) := by decide +kernel
theorem dX8_readCall_54 : decode cX8_readCall 54 = .ok (.imul, 1) := by decide +kernel
theorem dX8_readCall_55 : decode cX8_readCall 55 = .ok (.iadd, 1) := by decide +kernel
theorem dX8_readCall_56 : decode cX8_readCall 56 = .ok (.iconst 1, 1) := by decide +kernel
theorem dX8_readCall_57 : decode cX8_readCall 57 = .ok (.iadd, 1) := by decide +kernel
theorem dX8_readCall_58 : decode cX8_readCall 58 = .ok (.aload_n 0, 1) := by decide +kernel
theorem dX8_readCall_59 : decode cX8_readCall 59 = .ok (.iconst 0, 1) := by decide +kernel
theorem dX8_readCall_60 : decode cX8_readCall 60 = .ok (.sipush 999, 3) := by decide +kernel
theorem dX8_readCall_63 : decode cX8_readCall 63 = .ok (.invokevirtual 105, 3) := by decide +kernel
theorem dX8_readCall_66 : decode cX8_readCall 66 = .ok (.iastore, 1) := by decide +kernel
theorem dX8_readCall_67 : decode cX8_readCall 67 = .ok (.aload_n 0, 1) := by decide +kernel
theorem dX8_readCall_68 : decode cX8_readCall 68 = .ok (.getfield 7, 3) := by decide +kernel
theorem dX8_readCall_71 : decode cX8_readCall 71 = .ok (.sipush 1361, 3) := by decide +kernel
theorem dX8_readCall_74 : decode cX8_readCall 74 = .ok (.dup2, 1) := by decide +kernel
theorem dX8_readCall_75 : decode cX8_readCall 75 = .ok (.iaload, 1) := by decide +kernel
theorem dX8_readCall_76 : decode cX8_readCall 76 = .ok (.iconst 1, 1) := by decide +kernel
theorem dX8_readCall_77 : decode cX8_readCall 77 = .ok (.iadd, 1) := by decide +kernel
theorem dX8_readCall_78 : decode cX8_readCall 78 = .ok (.iastore, 1) := by decide +kernel
theorem dX8_readCall_79 : decode cX8_readCall 79 = .ok (.return_, 1) := by decide +kernel
set_option maxRecDepth 20000 in
theorem ggX8_readLine_X8_nameHere : GoodIn wsX8_readLine wsX8_nameHere := goodIn_r _ [9, 4, 10, 11, 12, 13, 14, 15, 16, 8, 17, 18, 19, 65, 66, 67, 68, 69, 70, 71, 72, 73, 74, 75, 76, 77, 78, 79, 80, 81, 82, 83, 84, 85, 86, 87, 88, 89, 90, 91, 92] rfl rfl
set_option maxRecDepth 20000 in
theorem gX8_readLine_X8_nameHere : GoodIn wsX8_readLine (wsV RX8 116 RX8 yX8_nameHere wsX8_nameHere) := goodIn_app (goodIn_of _ (by decide +kernel)) ggX8_readLine_X8_nameHere
set_option maxRecDepth 20000 in
theorem ggX8_readLine_X8_fails : GoodIn wsX8_readLine wsX8_fails := goodIn_r _ [23, 3, 11, 24, 65, 66, 67, 68, 69, 70, 71, 72, 73, 74, 75, 76, 77, 78, 79, 80, 81, 82, 83, 84, 85, 86, 87, 88, 89, 90, 91, 92] rfl rfl
set_option maxRecDepth 20000 in
theorem gX8_readLine_X8_fails : GoodIn wsX8_readLine (wsV RX8 96 RX8 yX8_fails wsX8_fails) := goodIn_app (goodIn_of _ (by decide +kernel)) ggX8_readLine_X8_fails
set_option maxRecDepth 20000 in
theorem ggX8_readLine_X8_readRoutine : GoodIn wsX8_readLine wsX8_readRoutine := goodIn_r _ [28, 29, 20, 21, 22, 8, 23, 3, 11, 24, 30, 31, 32, 33, 10, 34, 4, 35, 36, 37, 38, 14, 15, 16, 17, 18, 19, 39, 40, 41, 42, 43, 44, 45, 65, 66, 67, 68, 69, 70, 71, 72, 73, 74, 75, 76, 77, 78, 79, 80, 81, 82, 83, 84, 85, 86, 87, 88, 89, 90, 91, 92] rfl rfl
set_option maxRecDepth 20000 in
theorem gX8_readLine_X8_readRoutine : GoodIn wsX8_readLine (wsV RX8 120 RX8 yX8_readRoutine wsX8_readRoutine) := goodIn_app (goodIn_of _ (by decide +kernel)) ggX8_readLine_X8_readRoutine
set_option maxRecDepth 20000 in
theorem ggX8_readLine_X8_in : GoodIn wsX8_readLine wsX8_in := goodIn_r _ [41] rfl rfl
set_option maxRecDepth 20000 in
theorem gX8_readLine_X8_in : GoodIn wsX8_readLine (va_wsS RX8 58 yX8_in wsX8_in) := goodIn_app (goodIn_of _ (by decide +kernel)) ggX8_readLine_X8_in
set_option maxRecDepth 20000 in
theorem ggX8_readLine_X8_readOp : GoodIn wsX8_readLine wsX8_readOp := goodIn_r _ [49, 29, 50, 51, 20, 21, 22, 8, 23, 3, 11, 24, 30, 31, 32, 33, 10, 34, 4, 35, 36, 37, 38, 14, 15, 16, 17, 18, 19, 39, 40, 41, 52, 53, 54, 55, 56, 42, 43, 44, 45, 65, 66, 67, 68, 69, 70, 71, 72, 73, 74, 75, 76, 77, 78, 79, 80, 81, 82, 83, 84, 85, 86, 87, 88, 89, 90, 91, 92] rfl rfl
set_option maxRecDepth 20000 in
theorem gX8_readLine_X8_readOp : GoodIn wsX8_readLine (wsV RX8 127 RX8 yX8_readOp wsX8_readOp) := goodIn_app (goodIn_of _ (by decide +kernel)) ggX8_readLine_X8_readOp
set_option maxRecDepth 20000 in
theorem ggX8_readLine_X8_readLanding : GoodIn wsX8_readLine wsX8_readLanding := goodIn_r _ [60, 29, 20, 21, 22, 8, 23, 3, 11, 24, 30, 31, 32, 33, 10, 34, 4, 35, 36, 37, 38, 14, 15, 16, 17, 18, 19, 39, 40, 41, 42, 43, 44, 45, 65, 66, 67, 68, 69, 70, 71, 72, 73, 74, 75, 76, 77, 78, 79, 80, 81, 82, 83, 84, 85, 86, 87, 88, 89, 90, 91, 92] rfl rfl
set_option maxRecDepth 20000 in
theorem gX8_readLine_X8_readLanding : GoodIn wsX8_readLine (wsV RX8 130 RX8 yX8_readLanding wsX8_readLanding) := goodIn_app (goodIn_of _ (by decide +kernel)) ggX8_readLine_X8_readLanding
set_option maxRecDepth 20000 in
theorem ggX8_readLine_X8_readCall : GoodIn wsX8_readLine wsX8_readCall := goodIn_r _ [64, 29, 20, 21, 22, 8, 23, 3, 11, 24, 30, 31, 32, 33, 10, 34, 4, 35, 36, 37, 38, 14, 15, 16, 17, 18, 19, 39, 40, 41, 42, 43, 44, 45, 65, 66, 67, 68, 69, 70, 71, 72, 73, 74, 75, 76, 77, 78, 79, 80, 81, 82, 83, 84, 85, 86, 87, 88, 89, 90, 91, 92] rfl rfl
set_option maxRecDepth 20000 in
theorem gX8_readLine_X8_readCall : GoodIn wsX8_readLine (wsV RX8 133 RX8 yX8_readCall wsX8_readCall) := goodIn_app (goodIn_of _ (by decide +kernel)) ggX8_readLine_X8_readCall
set_option maxRecDepth 20000 in
theorem ggX8_readLine_X8_readsOn : GoodIn wsX8_readLine wsX8_readsOn := goodIn_r _ [33, 3, 10, 11, 34, 4, 35, 36, 37, 38, 14, 15, 16, 8, 17, 18, 19, 39, 40, 41, 20, 21, 22, 23, 24, 65, 66, 67, 68, 69, 70, 71, 72, 73, 74, 75, 76, 77, 78, 79, 80, 81, 82, 83, 84, 85, 86, 87, 88, 89, 90, 91, 92] rfl rfl
set_option maxRecDepth 20000 in
theorem gX8_readLine_X8_readsOn : GoodIn wsX8_readLine (wsV RX8 100 RX8 yX8_readsOn wsX8_readsOn) := goodIn_app (goodIn_of _ (by decide +kernel)) ggX8_readLine_X8_readsOn
theorem dX8_readLine_0 : decode cX8_readLine 0 = .ok (.aload_n 0, 1) := by decide +kernel
theorem dX8_readLine_1 : decode cX8_readLine 1 = .ok (.invokevirtual 116, 3) := by decide +kernel
theorem dX8_readLine_4 : decode cX8_readLine 4 = .ok (.istore_n 1, 1) := by decide +kernel
theorem dX8_readLine_5 : decode cX8_readLine 5 = .ok (.iload_n 1, 1) := by decide +kernel
theorem dX8_readLine_6 : decode cX8_readLine 6 = .ok (.bipush (-4), 2) := by decide +kernel
theorem dX8_readLine_8 : decode cX8_readLine 8 = .ok (.if_icmp .ne 11, 3) := by decide +kernel
theorem dX8_readLine_11 : decode cX8_readLine 11 = .ok (.aload_n 0, 1) := by decide +kernel
theorem dX8_readLine_12 : decode cX8_readLine 12 = .ok (.iconst 2, 1) := by decide +kernel
theorem dX8_readLine_13 : decode cX8_readLine 13 = .ok (.invokevirtual 96, 3) := by decide +kernel
theorem dX8_readLine_16 : decode cX8_readLine 16 = .ok (.goto 61, 3) := by decide +kernel
theorem dX8_readLine_19 : decode cX8_readLine 19 = .ok (.iload_n 1, 1) := by decide +kernel
theorem dX8_readLine_20 : decode cX8_readLine 20 = .ok (.ifCond .eq 8, 3) := by decide +kernel
theorem dX8_readLine_23 : decode cX8_readLine 23 = .ok (.iload_n 1, 1) := by decide +kernel
theorem dX8_readLine_24 : decode cX8_readLine 24 = .ok (.iconst 1, 1) := by decide +kernel
theorem dX8_readLine_25 : decode cX8_readLine 25 = .ok (.if_icmp .ne 11, 3) := by decide +kernel
theorem dX8_readLine_28 : decode cX8_readLine 28 = .ok (.aload_n 0, 1) := by decide +kernel
theorem dX8_readLine_29 : decode cX8_readLine 29 = .ok (.iload_n 1, 1) := by decide +kernel
theorem dX8_readLine_30 : decode cX8_readLine 30 = .ok (.invokevirtual 120, 3) := by decide +kernel
theorem dX8_readLine_33 : decode cX8_readLine 33 = .ok (.goto 44, 3) := by decide +kernel
theorem dX8_readLine_36 : decode cX8_readLine 36 = .ok (.iload_n 1, 1) := by decide +kernel
theorem dX8_readLine_37 : decode cX8_readLine 37 = .ok (.i2l, 1) := by decide +kernel
theorem dX8_readLine_38 : decode cX8_readLine 38 = .ok (.ldc2_w 123, 3) := by decide +kernel
theorem dX8_readLine_41 : decode cX8_readLine 41 = .ok (.ldc2_w 125, 3) := by decide +kernel
theorem dX8_readLine_44 : decode cX8_readLine 44 = .ok (.invokestatic 58, 3) := by decide +kernel
theorem dX8_readLine_47 : decode cX8_readLine 47 = .ok (.ifCond .eq 13, 3) := by decide +kernel
theorem dX8_readLine_50 : decode cX8_readLine 50 = .ok (.aload_n 0, 1) := by decide +kernel
theorem dX8_readLine_51 : decode cX8_readLine 51 = .ok (.iload_n 1, 1) := by decide +kernel
theorem dX8_readLine_52 : decode cX8_readLine 52 = .ok (.iconst 2, 1) := by decide +kernel
theorem dX8_readLine_53 : decode cX8_readLine 53 = .ok (.isub, 1) := by decide +kernel
theorem dX8_readLine_54 : decode cX8_readLine 54 = .ok (.invokevirtual 127, 3) := by decide +kernel
theorem dX8_readLine_57 : decode cX8_readLine 57 = .ok (.goto 20, 3) := by decide +kernel
theorem dX8_readLine_60 : decode cX8_readLine 60 = .ok (.iload_n 1, 1) := by decide +kernel
theorem dX8_readLine_61 : decode cX8_readLine 61 = .ok (.bipush 10, 2) := by decide +kernel
theorem dX8_readLine_63 : decode cX8_readLine 63 = .ok (.if_icmp .ne 10, 3) := by decide +kernel
theorem dX8_readLine_66 : decode cX8_readLine 66 = .ok (.aload_n 0, 1) := by decide +kernel
theorem dX8_readLine_67 : decode cX8_readLine 67 = .ok (.invokevirtual 130, 3) := by decide +kernel
theorem dX8_readLine_70 : decode cX8_readLine 70 = .ok (.goto 7, 3) := by decide +kernel
theorem dX8_readLine_73 : decode cX8_readLine 73 = .ok (.aload_n 0, 1) := by decide +kernel
theorem dX8_readLine_74 : decode cX8_readLine 74 = .ok (.invokevirtual 133, 3) := by decide +kernel
theorem dX8_readLine_77 : decode cX8_readLine 77 = .ok (.aload_n 0, 1) := by decide +kernel
theorem dX8_readLine_78 : decode cX8_readLine 78 = .ok (.getfield 66, 3) := by decide +kernel
theorem dX8_readLine_81 : decode cX8_readLine 81 = .ok (.ifCond .ne 16, 3) := by decide +kernel
theorem dX8_readLine_84 : decode cX8_readLine 84 = .ok (.aload_n 0, 1) := by decide +kernel
theorem dX8_readLine_85 : decode cX8_readLine 85 = .ok (.getfield 75, 3) := by decide +kernel
theorem dX8_readLine_88 : decode cX8_readLine 88 = .ok (.iconst 3, 1) := by decide +kernel
theorem dX8_readLine_89 : decode cX8_readLine 89 = .ok (.if_icmp .eq 8, 3) := by decide +kernel
theorem dX8_readLine_92 : decode cX8_readLine 92 = .ok (.aload_n 0, 1) := by decide +kernel
theorem dX8_readLine_93 : decode cX8_readLine 93 = .ok (.iconst 2, 1) := by decide +kernel
theorem dX8_readLine_94 : decode cX8_readLine 94 = .ok (.invokevirtual 96, 3) := by decide +kernel
theorem dX8_readLine_97 : decode cX8_readLine 97 = .ok (.aload_n 0, 1) := by decide +kernel
theorem dX8_readLine_98 : decode cX8_readLine 98 = .ok (.invokevirtual 100, 3) := by decide +kernel
theorem dX8_readLine_101 : decode cX8_readLine 101 = .ok (.return_, 1) := by decide +kernel
theorem dX8_isApart_0 : decode cX8_isApart 0 = .ok (.iconst 1, 1) := by decide +kernel
theorem dX8_isApart_1 : decode cX8_isApart 1 = .ok (.istore_n 2, 1) := by decide +kernel
theorem dX8_isApart_2 : decode cX8_isApart 2 = .ok (.iconst 0, 1) := by decide +kernel
theorem dX8_isApart_3 : decode cX8_isApart 3 = .ok (.istore_n 3, 1) := by decide +kernel
theorem dX8_isApart_4 : decode cX8_isApart 4 = .ok (.iload_n 3, 1) := by decide +kernel
theorem dX8_isApart_5 : decode cX8_isApart 5 = .ok (.aload_n 0, 1) := by decide +kernel
theorem dX8_isApart_6 : decode cX8_isApart 6 = .ok (.getfield 7, 3) := by decide +kernel
theorem dX8_isApart_9 : decode cX8_isApart 9 = .ok (.iload_n 1, 1) := by decide +kernel
theorem dX8_isApart_10 : decode cX8_isApart 10 = .ok (.sipush 296, 3) := by decide +kernel
theorem dX8_isApart_13 : decode cX8_isApart 13 = .ok (.iadd, 1) := by decide +kernel
theorem dX8_isApart_14 : decode cX8_isApart 14 = .ok (.iaload, 1) := by decide +kernel
theorem dX8_isApart_15 : decode cX8_isApart 15 = .ok (.if_icmp .ge 80, 3) := by decide +kernel
theorem dX8_isApart_18 : decode cX8_isApart 18 = .ok (.iconst 0, 1) := by decide +kernel
theorem dX8_isApart_19 : decode cX8_isApart 19 = .ok (.istore 4, 2) := by decide +kernel
theorem dX8_isApart_21 : decode cX8_isApart 21 = .ok (.iload 4, 2) := by decide +kernel
theorem dX8_isApart_23 : decode cX8_isApart 23 = .ok (.iload_n 3, 1) := by decide +kernel
theorem dX8_isApart_24 : decode cX8_isApart 24 = .ok (.if_icmp .ge 65, 3) := by decide +kernel
theorem dX8_isApart_27 : decode cX8_isApart 27 = .ok (.iload_n 2, 1) := by decide +kernel
theorem dX8_isApart_28 : decode cX8_isApart 28 = .ok (.ifCond .eq 53, 3) := by decide +kernel
theorem dX8_isApart_31 : decode cX8_isApart 31 = .ok (.aload_n 0, 1) := by decide +kernel
theorem dX8_isApart_32 : decode cX8_isApart 32 = .ok (.getfield 7, 3) := by decide +kernel
theorem dX8_isApart_35 : decode cX8_isApart 35 = .ok (.iload_n 1, 1) := by decide +kernel
theorem dX8_isApart_36 : decode cX8_isApart 36 = .ok (.bipush 8, 2) := by decide +kernel
theorem dX8_isApart_38 : decode cX8_isApart 38 = .ok (.iadd, 1) := by decide +kernel
theorem dX8_isApart_39 : decode cX8_isApart 39 = .ok (.iload 4, 2) := by decide +kernel
theorem dX8_isApart_41 : decode cX8_isApart 41 = .ok (.iadd, 1) := by decide +kernel
theorem dX8_isApart_42 : decode cX8_isApart 42 = .ok (.iaload, 1) := by decide +kernel
theorem dX8_isApart_43 : decode cX8_isApart 43 = .ok (.aload_n 0, 1) := by decide +kernel
theorem dX8_isApart_44 : decode cX8_isApart 44 = .ok (.getfield 7, 3) := by decide +kernel
theorem dX8_isApart_47 : decode cX8_isApart 47 = .ok (.iload_n 1, 1) := by decide +kernel
theorem dX8_isApart_48 : decode cX8_isApart 48 = .ok (.iload_n 3, 1) := by decide +kernel
theorem dX8_isApart_49 : decode cX8_isApart 49 = .ok (.iadd, 1) := by decide +kernel
theorem dX8_isApart_50 : decode cX8_isApart 50 = .ok (.iaload, 1) := by decide +kernel
theorem dX8_isApart_51 : decode cX8_isApart 51 = .ok (.if_icmp .lt 26, 3) := by decide +kernel
theorem dX8_isApart_54 : decode cX8_isApart 54 = .ok (.aload_n 0, 1) := by decide +kernel
theorem dX8_isApart_55 : decode cX8_isApart 55 = .ok (.getfield 7, 3) := by decide +kernel
theorem dX8_isApart_58 : decode cX8_isApart 58 = .ok (.iload_n 1, 1) := by decide +kernel
theorem dX8_isApart_59 : decode cX8_isApart 59 = .ok (.bipush 8, 2) := by decide +kernel
theorem dX8_isApart_61 : decode cX8_isApart 61 = .ok (.iadd, 1) := by decide +kernel
theorem dX8_isApart_62 : decode cX8_isApart 62 = .ok (.iload_n 3, 1) := by decide +kernel
theorem dX8_isApart_63 : decode cX8_isApart 63 = .ok (.iadd, 1) := by decide +kernel
theorem dX8_isApart_64 : decode cX8_isApart 64 = .ok (.iaload, 1) := by decide +kernel
theorem dX8_isApart_65 : decode cX8_isApart 65 = .ok (.aload_n 0, 1) := by decide +kernel
theorem dX8_isApart_66 : decode cX8_isApart 66 = .ok (.getfield 7, 3) := by decide +kernel
theorem dX8_isApart_69 : decode cX8_isApart 69 = .ok (.iload_n 1, 1) := by decide +kernel
theorem dX8_isApart_70 : decode cX8_isApart 70 = .ok (.iload 4, 2) := by decide +kernel
theorem dX8_isApart_72 : decode cX8_isApart 72 = .ok (.iadd, 1) := by decide +kernel
theorem dX8_isApart_73 : decode cX8_isApart 73 = .ok (.iaload, 1) := by decide +kernel
theorem dX8_isApart_74 : decode cX8_isApart 74 = .ok (.if_icmp .ge 7, 3) := by decide +kernel
theorem dX8_isApart_77 : decode cX8_isApart 77 = .ok (.iconst 1, 1) := by decide +kernel
theorem dX8_isApart_78 : decode cX8_isApart 78 = .ok (.goto 4, 3) := by decide +kernel
theorem dX8_isApart_81 : decode cX8_isApart 81 = .ok (.iconst 0, 1) := by decide +kernel
theorem dX8_isApart_82 : decode cX8_isApart 82 = .ok (.istore_n 2, 1) := by decide +kernel
theorem dX8_isApart_83 : decode cX8_isApart 83 = .ok (.iinc 4 1, 3) := by decide +kernel
theorem dX8_isApart_86 : decode cX8_isApart 86 = .ok (.goto (-65), 3) := by decide +kernel
theorem dX8_isApart_89 : decode cX8_isApart 89 = .ok (.iinc 3 1, 3) := by decide +kernel
theorem dX8_isApart_92 : decode cX8_isApart 92 = .ok (.goto (-88), 3) := by decide +kernel
theorem dX8_isApart_95 : decode cX8_isApart 95 = .ok (.iload_n 2, 1) := by decide +kernel
theorem dX8_isApart_96 : decode cX8_isApart 96 = .ok (.ireturn, 1) := by decide +kernel
set_option maxRecDepth 20000 in
theorem ggX8_text_X8_readsOn : GoodIn wsX8_text wsX8_readsOn := goodIn_r _ [14, 1, 2, 15, 16, 4, 17, 18, 19, 20, 21, 22, 23, 13, 24, 5, 25, 26, 27, 28, 29, 30, 31, 32, 7, 76, 77, 78, 79, 80, 81, 82, 83, 84, 85, 86, 87, 88, 89, 90, 91, 92, 93, 94, 95, 96, 97, 98, 99, 100, 101, 102, 103] rfl rfl
set_option maxRecDepth 20000 in
theorem gX8_text_X8_readsOn : GoodIn wsX8_text (wsV RX8 100 RX8 yX8_readsOn wsX8_readsOn) := goodIn_app (goodIn_of _ (by decide +kernel)) ggX8_text_X8_readsOn
set_option maxRecDepth 20000 in
theorem ggX8_text_X8_readLine : GoodIn wsX8_text wsX8_readLine := goodIn_r _ [36, 37, 38, 1, 4, 39, 40, 41, 13, 42, 2, 15, 43, 44, 21, 22, 23, 24, 5, 25, 29, 30, 31, 32, 7, 45, 46, 47, 48, 3, 10, 11, 12, 14, 16, 17, 18, 19, 20, 26, 27, 28, 49, 50, 51, 52, 53, 54, 55, 56, 57, 58, 59, 60, 61, 62, 63, 64, 65, 66, 67, 68, 69, 70, 71, 76, 77, 78, 79, 80, 81, 82, 83, 84, 85, 86, 87, 88, 89, 90, 91, 92, 93, 94, 95, 96, 97, 98, 99, 100, 101, 102, 103] rfl rfl
set_option maxRecDepth 20000 in
theorem gX8_text_X8_readLine : GoodIn wsX8_text (wsV RX8 136 RX8 yX8_readLine wsX8_readLine) := goodIn_app (goodIn_of _ (by decide +kernel)) ggX8_text_X8_readLine
set_option maxRecDepth 20000 in
theorem ggX8_text_X8_isApart : GoodIn wsX8_text wsX8_isApart := goodIn_r _ [75, 3, 76, 77, 78, 79, 80, 81, 82, 83, 84, 85, 86, 87, 88, 89, 90, 91, 92, 93, 94, 95, 96, 97, 98, 99, 100, 101, 102, 103] rfl rfl
set_option maxRecDepth 20000 in
theorem gX8_text_X8_isApart : GoodIn wsX8_text (wsV RX8 139 RX8 yX8_isApart wsX8_isApart) := goodIn_app (goodIn_of _ (by decide +kernel)) ggX8_text_X8_isApart
set_option maxRecDepth 20000 in
theorem ggX8_text_X8_fails : GoodIn wsX8_text wsX8_fails := goodIn_r _ [32, 1, 15, 7, 76, 77, 78, 79, 80, 81, 82, 83, 84, 85, 86, 87, 88, 89, 90, 91, 92, 93, 94, 95, 96, 97, 98, 99, 100, 101, 102, 103] rfl rfl
set_option maxRecDepth 20000 in
theorem gX8_text_X8_fails : GoodIn wsX8_text (wsV RX8 96 RX8 yX8_fails wsX8_fails) := goodIn_app (goodIn_of _ (by decide +kernel)) ggX8_text_X8_fails
theorem dX8_text_0 : decode cX8_text 0 = .ok (.aload_n 0, 1) := by decide +kernel
theorem dX8_text_1 : decode cX8_text 1 = .ok (.iconst 0, 1) := by decide +kernel
theorem dX8_text_2 : decode cX8_text 2 = .ok (.putfield 66, 3) := by decide +kernel
theorem dX8_text_5 : decode cX8_text 5 = .ok (.aload_n 0, 1) := by decide +kernel
theorem dX8_text_6 : decode cX8_text 6 = .ok (.iconst 0, 1) := by decide +kernel
theorem dX8_text_7 : decode cX8_text 7 = .ok (.putfield 78, 3) := by decide +kernel
theorem dX8_text_10 : decode cX8_text 10 = .ok (.iconst 0, 1) := by decide +kernel
theorem dX8_text_11 : decode cX8_text 11 = .ok (.istore_n 1, 1) := by decide +kernel
theorem dX8_text_12 : decode cX8_text 12 = .ok (.iconst 0, 1) := by decide +kernel
theorem dX8_text_13 : decode cX8_text 13 = .ok (.istore_n 2, 1) := by decide +kernel
theorem dX8_text_14 : decode cX8_text 14 = .ok (.iload_n 2, 1) := by decide +kernel
theorem dX8_text_15 : decode cX8_text 15 = .ok (.sipush 300, 3) := by decide +kernel
theorem dX8_text_18 : decode cX8_text 18 = .ok (.if_icmp .ge 20, 3) := by decide +kernel
theorem dX8_text_21 : decode cX8_text 21 = .ok (.aload_n 0, 1) := by decide +kernel
theorem dX8_text_22 : decode cX8_text 22 = .ok (.getfield 7, 3) := by decide +kernel
theorem dX8_text_25 : decode cX8_text 25 = .ok (.sipush 1062, 3) := by decide +kernel
theorem dX8_text_28 : decode cX8_text 28 = .ok (.iload_n 2, 1) := by decide +kernel
theorem dX8_text_29 : decode cX8_text 29 = .ok (.iadd, 1) := by decide +kernel
theorem dX8_text_30 : decode cX8_text 30 = .ok (.iconst 0, 1) := by decide +kernel
theorem dX8_text_31 : decode cX8_text 31 = .ok (.iastore, 1) := by decide +kernel
theorem dX8_text_32 : decode cX8_text 32 = .ok (.iinc 2 1, 3) := by decide +kernel
theorem dX8_text_35 : decode cX8_text 35 = .ok (.goto (-21), 3) := by decide +kernel
theorem dX8_text_38 : decode cX8_text 38 = .ok (.aload_n 0, 1) := by decide +kernel
theorem dX8_text_39 : decode cX8_text 39 = .ok (.invokevirtual 100, 3) := by decide +kernel
theorem dX8_text_42 : decode cX8_text 42 = .ok (.aload_n 0, 1) := by decide +kernel
theorem dX8_text_43 : decode cX8_text 43 = .ok (.getfield 66, 3) := by decide +kernel
theorem dX8_text_46 : decode cX8_text 46 = .ok (.ifCond .ne 20, 3) := by decide +kernel
theorem dX8_text_49 : decode cX8_text 49 = .ok (.aload_n 0, 1) := by decide +kernel
theorem dX8_text_50 : decode cX8_text 50 = .ok (.getfield 75, 3) := by decide +kernel
theorem dX8_text_53 : decode cX8_text 53 = .ok (.ifCond .eq 13, 3) := by decide +kernel
theorem dX8_text_56 : decode cX8_text 56 = .ok (.aload_n 0, 1) := by decide +kernel
theorem dX8_text_57 : decode cX8_text 57 = .ok (.invokevirtual 136, 3) := by decide +kernel
theorem dX8_text_60 : decode cX8_text 60 = .ok (.iinc 1 1, 3) := by decide +kernel
theorem dX8_text_63 : decode cX8_text 63 = .ok (.goto (-21), 3) := by decide +kernel
theorem dX8_text_66 : decode cX8_text 66 = .ok (.aload_n 0, 1) := by decide +kernel
theorem dX8_text_67 : decode cX8_text 67 = .ok (.getfield 66, 3) := by decide +kernel
theorem dX8_text_70 : decode cX8_text 70 = .ok (.ifCond .ne 19, 3) := by decide +kernel
theorem dX8_text_73 : decode cX8_text 73 = .ok (.aload_n 0, 1) := by decide +kernel
theorem dX8_text_74 : decode cX8_text 74 = .ok (.sipush 1062, 3) := by decide +kernel
theorem dX8_text_77 : decode cX8_text 77 = .ok (.invokevirtual 139, 3) := by decide +kernel
theorem dX8_text_80 : decode cX8_text 80 = .ok (.ifCond .ne 9, 3) := by decide +kernel
theorem dX8_text_83 : decode cX8_text 83 = .ok (.aload_n 0, 1) := by decide +kernel
theorem dX8_text_84 : decode cX8_text 84 = .ok (.bipush 6, 2) := by decide +kernel
theorem dX8_text_86 : decode cX8_text 86 = .ok (.invokevirtual 96, 3) := by decide +kernel
theorem dX8_text_89 : decode cX8_text 89 = .ok (.aload_n 0, 1) := by decide +kernel
theorem dX8_text_90 : decode cX8_text 90 = .ok (.iconst 0, 1) := by decide +kernel
theorem dX8_text_91 : decode cX8_text 91 = .ok (.putfield 62, 3) := by decide +kernel
theorem dX8_text_94 : decode cX8_text 94 = .ok (.aload_n 0, 1) := by decide +kernel
theorem dX8_text_95 : decode cX8_text 95 = .ok (.aload_n 0, 1) := by decide +kernel
theorem dX8_text_96 : decode cX8_text 96 = .ok (.getfield 66, 3) := by decide +kernel
theorem dX8_text_99 : decode cX8_text 99 = .ok (.putfield 143, 3) := by decide +kernel
theorem dX8_text_102 : decode cX8_text 102 = .ok (.aload_n 0, 1) := by decide +kernel
theorem dX8_text_103 : decode cX8_text 103 = .ok (.getfield 66, 3) := by decide +kernel
theorem dX8_text_106 : decode cX8_text 106 = .ok (.ifCond .le 11, 3) := by decide +kernel
theorem dX8_text_109 : decode cX8_text 109 = .ok (.bipush (-10), 2) := by decide +kernel
theorem dX8_text_111 : decode cX8_text 111 = .ok (.aload_n 0, 1) := by decide +kernel
theorem dX8_text_112 : decode cX8_text 112 = .ok (.getfield 72, 3) := by decide +kernel
theorem dX8_text_115 : decode cX8_text 115 = .ok (.isub, 1) := by decide +kernel
theorem dX8_text_116 : decode cX8_text 116 = .ok (.ireturn, 1) := by decide +kernel
theorem dX8_text_117 : decode cX8_text 117 = .ok (.iconst 0, 1) := by decide +kernel
theorem dX8_text_118 : decode cX8_text 118 = .ok (.istore_n 2, 1) := by decide +kernel
theorem dX8_text_119 : decode cX8_text 119 = .ok (.iload_n 2, 1) := by decide +kernel
theorem dX8_text_120 : decode cX8_text 120 = .ok (.sipush 300, 3) := by decide +kernel
theorem dX8_text_123 : decode cX8_text 123 = .ok (.if_icmp .ge 25, 3) := by decide +kernel
theorem dX8_text_126 : decode cX8_text 126 = .ok (.aload_n 0, 1) := by decide +kernel
theorem dX8_text_127 : decode cX8_text 127 = .ok (.getfield 7, 3) := by decide +kernel
theorem dX8_text_130 : decode cX8_text 130 = .ok (.iload_n 2, 1) := by decide +kernel
theorem dX8_text_131 : decode cX8_text 131 = .ok (.aload_n 0, 1) := by decide +kernel
theorem dX8_text_132 : decode cX8_text 132 = .ok (.getfield 7, 3) := by decide +kernel
theorem dX8_text_135 : decode cX8_text 135 = .ok (.sipush 1062, 3) := by decide +kernel
theorem dX8_text_138 : decode cX8_text 138 = .ok (.iload_n 2, 1) := by decide +kernel
theorem dX8_text_139 : decode cX8_text 139 = .ok (.iadd, 1) := by decide +kernel
theorem dX8_text_140 : decode cX8_text 140 = .ok (.iaload, 1) := by decide +kernel
theorem dX8_text_141 : decode cX8_text 141 = .ok (.iastore, 1) := by decide +kernel
theorem dX8_text_142 : decode cX8_text 142 = .ok (.iinc 2 1, 3) := by decide +kernel
theorem dX8_text_145 : decode cX8_text 145 = .ok (.goto (-26), 3) := by decide +kernel
theorem dX8_text_148 : decode cX8_text 148 = .ok (.aload_n 0, 1) := by decide +kernel
theorem dX8_text_149 : decode cX8_text 149 = .ok (.iconst 0, 1) := by decide +kernel
theorem dX8_text_150 : decode cX8_text 150 = .ok (.putfield 146, 3) := by decide +kernel
theorem dX8_text_153 : decode cX8_text 153 = .ok (.aload_n 0, 1) := by decide +kernel
theorem dX8_text_154 : decode cX8_text 154 = .ok (.getfield 40, 3) := by decide +kernel
theorem dX8_text_157 : decode cX8_text 157 = .ok (.iconst 0, 1) := by decide +kernel
theorem dX8_text_158 : decode cX8_text 158 = .ok (.iconst 0, 1) := by decide +kernel
theorem dX8_text_159 : decode cX8_text 159 = .ok (.bastore, 1) := by decide +kernel
theorem dX8_text_160 : decode cX8_text 160 = .ok (.aload_n 0, 1) := by decide +kernel
theorem dX8_text_161 : decode cX8_text 161 = .ok (.getfield 40, 3) := by decide +kernel
theorem dX8_text_164 : decode cX8_text 164 = .ok (.iconst 1, 1) := by decide +kernel
theorem dX8_text_165 : decode cX8_text 165 = .ok (.iconst 0, 1) := by decide +kernel
theorem dX8_text_166 : decode cX8_text 166 = .ok (.bastore, 1) := by decide +kernel
theorem dX8_text_167 : decode cX8_text 167 = .ok (.iload_n 1, 1) := by decide +kernel
theorem dX8_text_168 : decode cX8_text 168 = .ok (.ireturn, 1) := by decide +kernel
theorem dX8_fault_0 : decode cX8_fault 0 = .ok (.aload_n 0, 1) := by decide +kernel
theorem dX8_fault_1 : decode cX8_fault 1 = .ok (.getfield 143, 3) := by decide +kernel
theorem dX8_fault_4 : decode cX8_fault 4 = .ok (.ireturn, 1) := by decide +kernel
theorem dX8_routines_0 : decode cX8_routines 0 = .ok (.aload_n 0, 1) := by decide +kernel
theorem dX8_routines_1 : decode cX8_routines 1 = .ok (.getfield 7, 3) := by decide +kernel
theorem dX8_routines_4 : decode cX8_routines 4 = .ok (.sipush 296, 3) := by decide +kernel
theorem dX8_routines_7 : decode cX8_routines 7 = .ok (.iaload, 1) := by decide +kernel
theorem dX8_routines_8 : decode cX8_routines 8 = .ok (.ireturn, 1) := by decide +kernel
set_option maxRecDepth 20000 in
theorem ggX8_isRoutine_X8_routines : GoodIn wsX8_isRoutine wsX8_routines := goodIn_r _ [5, 6, 10, 11, 12, 13, 14, 15, 16, 17, 18, 19, 20, 21, 22, 23, 24, 25, 26, 27, 28, 29, 30, 31, 32, 33, 34, 35, 36, 37] rfl rfl
set_option maxRecDepth 20000 in
theorem gX8_isRoutine_X8_routines : GoodIn wsX8_isRoutine (wsV RX8 150 RX8 yX8_routines wsX8_routines) := goodIn_app (goodIn_of _ (by decide +kernel)) ggX8_isRoutine_X8_routines
set_option maxRecDepth 20000 in
theorem ggX8_isRoutine_X8_in : GoodIn wsX8_isRoutine wsX8_in := goodIn_r _ [9] rfl rfl
set_option maxRecDepth 20000 in
theorem gX8_isRoutine_X8_in : GoodIn wsX8_isRoutine (va_wsS RX8 58 yX8_in wsX8_in) := goodIn_app (goodIn_of _ (by decide +kernel)) ggX8_isRoutine_X8_in
theorem dX8_isRoutine_0 : decode cX8_isRoutine 0 = .ok (.iload_n 1, 1) := by decide +kernel
theorem dX8_isRoutine_1 : decode cX8_isRoutine 1 = .ok (.i2l, 1) := by decide +kernel
theorem dX8_isRoutine_2 : decode cX8_isRoutine 2 = .ok (.lconst 0, 1) := by decide +kernel
theorem dX8_isRoutine_3 : decode cX8_isRoutine 3 = .ok (.aload_n 0, 1) := by decide +kernel
theorem dX8_isRoutine_4 : decode cX8_isRoutine 4 = .ok (.invokevirtual 150, 3) := by decide +kernel
theorem dX8_isRoutine_7 : decode cX8_isRoutine 7 = .ok (.iconst 1, 1) := by decide +kernel
theorem dX8_isRoutine_8 : decode cX8_isRoutine 8 = .ok (.isub, 1) := by decide +kernel
theorem dX8_isRoutine_9 : decode cX8_isRoutine 9 = .ok (.i2l, 1) := by decide +kernel
theorem dX8_isRoutine_10 : decode cX8_isRoutine 10 = .ok (.invokestatic 58, 3) := by decide +kernel
theorem dX8_isRoutine_13 : decode cX8_isRoutine 13 = .ok (.ireturn, 1) := by decide +kernel
set_option maxRecDepth 20000 in
theorem ggX8_isOf_X8_in : GoodIn wsX8_isOf wsX8_in := goodIn_r _ [5] rfl rfl
set_option maxRecDepth 20000 in
theorem gX8_isOf_X8_in : GoodIn wsX8_isOf (va_wsS RX8 58 yX8_in wsX8_in) := goodIn_app (goodIn_of _ (by decide +kernel)) ggX8_isOf_X8_in
theorem dX8_isOf_0 : decode cX8_isOf 0 = .ok (.iload_n 2, 1) := by decide +kernel
theorem dX8_isOf_1 : decode cX8_isOf 1 = .ok (.i2l, 1) := by decide +kernel
theorem dX8_isOf_2 : decode cX8_isOf 2 = .ok (.aload_n 0, 1) := by decide +kernel
theorem dX8_isOf_3 : decode cX8_isOf 3 = .ok (.getfield 7, 3) := by decide +kernel
theorem dX8_isOf_6 : decode cX8_isOf 6 = .ok (.iload_n 1, 1) := by decide +kernel
theorem dX8_isOf_7 : decode cX8_isOf 7 = .ok (.iaload, 1) := by decide +kernel
theorem dX8_isOf_8 : decode cX8_isOf 8 = .ok (.i2l, 1) := by decide +kernel
theorem dX8_isOf_9 : decode cX8_isOf 9 = .ok (.aload_n 0, 1) := by decide +kernel
theorem dX8_isOf_10 : decode cX8_isOf 10 = .ok (.getfield 7, 3) := by decide +kernel
theorem dX8_isOf_13 : decode cX8_isOf 13 = .ok (.bipush 8, 2) := by decide +kernel
theorem dX8_isOf_15 : decode cX8_isOf 15 = .ok (.iload_n 1, 1) := by decide +kernel
theorem dX8_isOf_16 : decode cX8_isOf 16 = .ok (.iadd, 1) := by decide +kernel
theorem dX8_isOf_17 : decode cX8_isOf 17 = .ok (.iaload, 1) := by decide +kernel
theorem dX8_isOf_18 : decode cX8_isOf 18 = .ok (.i2l, 1) := by decide +kernel
theorem dX8_isOf_19 : decode cX8_isOf 19 = .ok (.invokestatic 58, 3) := by decide +kernel
theorem dX8_isOf_22 : decode cX8_isOf 22 = .ok (.ireturn, 1) := by decide +kernel
set_option maxRecDepth 20000 in
theorem ggX8_whoseOf_X8_routines : GoodIn wsX8_whoseOf wsX8_routines := goodIn_r _ [5, 6, 14, 15, 16, 17, 18, 19, 20, 21, 22, 23, 24, 25, 26, 27, 28, 29, 30, 31, 32, 33, 34, 35, 36, 37, 38, 39, 40, 41] rfl rfl
set_option maxRecDepth 20000 in
theorem gX8_whoseOf_X8_routines : GoodIn wsX8_whoseOf (wsV RX8 150 RX8 yX8_routines wsX8_routines) := goodIn_app (goodIn_of _ (by decide +kernel)) ggX8_whoseOf_X8_routines
set_option maxRecDepth 20000 in
theorem ggX8_whoseOf_X8_isOf : GoodIn wsX8_whoseOf wsX8_isOf := goodIn_r _ [10, 6, 11, 12, 4, 13, 14, 15, 16, 17, 18, 19, 20, 21, 22, 23, 24, 25, 26, 27, 28, 29, 30, 31, 32, 33, 34, 35, 36, 37, 38, 39, 40, 41] rfl rfl
set_option maxRecDepth 20000 in
theorem gX8_whoseOf_X8_isOf : GoodIn wsX8_whoseOf (wsV RX8 153 RX8 yX8_isOf wsX8_isOf) := goodIn_app (goodIn_of _ (by decide +kernel)) ggX8_whoseOf_X8_isOf
theorem dX8_whoseOf_0 : decode cX8_whoseOf 0 = .ok (.iconst 0, 1) := by decide +kernel
theorem dX8_whoseOf_1 : decode cX8_whoseOf 1 = .ok (.istore_n 2, 1) := by decide +kernel
theorem dX8_whoseOf_2 : decode cX8_whoseOf 2 = .ok (.iload_n 2, 1) := by decide +kernel
theorem dX8_whoseOf_3 : decode cX8_whoseOf 3 = .ok (.aload_n 0, 1) := by decide +kernel
theorem dX8_whoseOf_4 : decode cX8_whoseOf 4 = .ok (.invokevirtual 150, 3) := by decide +kernel
theorem dX8_whoseOf_7 : decode cX8_whoseOf 7 = .ok (.if_icmp .ge 20, 3) := by decide +kernel
theorem dX8_whoseOf_10 : decode cX8_whoseOf 10 = .ok (.aload_n 0, 1) := by decide +kernel
theorem dX8_whoseOf_11 : decode cX8_whoseOf 11 = .ok (.iload_n 2, 1) := by decide +kernel
theorem dX8_whoseOf_12 : decode cX8_whoseOf 12 = .ok (.iload_n 1, 1) := by decide +kernel
theorem dX8_whoseOf_13 : decode cX8_whoseOf 13 = .ok (.invokevirtual 153, 3) := by decide +kernel
theorem dX8_whoseOf_16 : decode cX8_whoseOf 16 = .ok (.ifCond .eq 5, 3) := by decide +kernel
theorem dX8_whoseOf_19 : decode cX8_whoseOf 19 = .ok (.iload_n 2, 1) := by decide +kernel
theorem dX8_whoseOf_20 : decode cX8_whoseOf 20 = .ok (.ireturn, 1) := by decide +kernel
theorem dX8_whoseOf_21 : decode cX8_whoseOf 21 = .ok (.iinc 2 1, 3) := by decide +kernel
theorem dX8_whoseOf_24 : decode cX8_whoseOf 24 = .ok (.goto (-22), 3) := by decide +kernel
theorem dX8_whoseOf_27 : decode cX8_whoseOf 27 = .ok (.bipush (-4), 2) := by decide +kernel
theorem dX8_whoseOf_29 : decode cX8_whoseOf 29 = .ok (.ireturn, 1) := by decide +kernel
set_option maxRecDepth 20000 in
theorem ggX8_whose_X8_whoseOf : GoodIn wsX8_whose wsX8_whoseOf := goodIn_r _ [5, 6, 7, 8, 4, 9, 10, 11, 12, 13, 14, 15, 16, 17, 18, 19, 20, 21, 22, 23, 24, 25, 26, 27, 28, 29, 30, 31, 32, 33, 34, 35, 36, 37, 38, 39, 40, 41, 42, 43, 44, 45] rfl rfl
set_option maxRecDepth 20000 in
theorem gX8_whose_X8_whoseOf : GoodIn wsX8_whose (wsV RX8 157 RX8 yX8_whoseOf wsX8_whoseOf) := goodIn_app (goodIn_of _ (by decide +kernel)) ggX8_whose_X8_whoseOf
theorem dX8_whose_0 : decode cX8_whose 0 = .ok (.aload_n 0, 1) := by decide +kernel
theorem dX8_whose_1 : decode cX8_whose 1 = .ok (.iload_n 1, 1) := by decide +kernel
theorem dX8_whose_2 : decode cX8_whose 2 = .ok (.invokevirtual 157, 3) := by decide +kernel
theorem dX8_whose_5 : decode cX8_whose 5 = .ok (.ireturn, 1) := by decide +kernel
set_option maxRecDepth 20000 in
theorem ggX8_addresses_X8_routines : GoodIn wsX8_addresses wsX8_routines := goodIn_r _ [6, 1, 7, 8, 9, 10, 11, 12, 13, 14, 15, 16, 17, 18, 19, 20, 21, 22, 23, 24, 25, 26, 27, 28, 29, 30, 31, 32, 33, 34] rfl rfl
set_option maxRecDepth 20000 in
theorem gX8_addresses_X8_routines : GoodIn wsX8_addresses (wsV RX8 150 RX8 yX8_routines wsX8_routines) := goodIn_app (goodIn_of _ (by decide +kernel)) ggX8_addresses_X8_routines
theorem dX8_addresses_0 : decode cX8_addresses 0 = .ok (.iconst 0, 1) := by decide +kernel
theorem dX8_addresses_1 : decode cX8_addresses 1 = .ok (.istore_n 1, 1) := by decide +kernel
theorem dX8_addresses_2 : decode cX8_addresses 2 = .ok (.iconst 0, 1) := by decide +kernel
theorem dX8_addresses_3 : decode cX8_addresses 3 = .ok (.istore_n 2, 1) := by decide +kernel
theorem dX8_addresses_4 : decode cX8_addresses 4 = .ok (.iload_n 2, 1) := by decide +kernel
theorem dX8_addresses_5 : decode cX8_addresses 5 = .ok (.aload_n 0, 1) := by decide +kernel
theorem dX8_addresses_6 : decode cX8_addresses 6 = .ok (.invokevirtual 150, 3) := by decide +kernel
theorem dX8_addresses_9 : decode cX8_addresses 9 = .ok (.if_icmp .ge 30, 3) := by decide +kernel
theorem dX8_addresses_12 : decode cX8_addresses 12 = .ok (.iload_n 1, 1) := by decide +kernel
theorem dX8_addresses_13 : decode cX8_addresses 13 = .ok (.aload_n 0, 1) := by decide +kernel
theorem dX8_addresses_14 : decode cX8_addresses 14 = .ok (.getfield 7, 3) := by decide +kernel
theorem dX8_addresses_17 : decode cX8_addresses 17 = .ok (.bipush 8, 2) := by decide +kernel
theorem dX8_addresses_19 : decode cX8_addresses 19 = .ok (.iload_n 2, 1) := by decide +kernel
theorem dX8_addresses_20 : decode cX8_addresses 20 = .ok (.iadd, 1) := by decide +kernel
theorem dX8_addresses_21 : decode cX8_addresses 21 = .ok (.iaload, 1) := by decide +kernel
theorem dX8_addresses_22 : decode cX8_addresses 22 = .ok (.aload_n 0, 1) := by decide +kernel
theorem dX8_addresses_23 : decode cX8_addresses 23 = .ok (.getfield 7, 3) := by decide +kernel
theorem dX8_addresses_26 : decode cX8_addresses 26 = .ok (.iload_n 2, 1) := by decide +kernel
theorem dX8_addresses_27 : decode cX8_addresses 27 = .ok (.iaload, 1) := by decide +kernel
theorem dX8_addresses_28 : decode cX8_addresses 28 = .ok (.isub, 1) := by decide +kernel
theorem dX8_addresses_29 : decode cX8_addresses 29 = .ok (.iconst 1, 1) := by decide +kernel
theorem dX8_addresses_30 : decode cX8_addresses 30 = .ok (.iadd, 1) := by decide +kernel
theorem dX8_addresses_31 : decode cX8_addresses 31 = .ok (.iadd, 1) := by decide +kernel
theorem dX8_addresses_32 : decode cX8_addresses 32 = .ok (.istore_n 1, 1) := by decide +kernel
theorem dX8_addresses_33 : decode cX8_addresses 33 = .ok (.iinc 2 1, 3) := by decide +kernel
theorem dX8_addresses_36 : decode cX8_addresses 36 = .ok (.goto (-32), 3) := by decide +kernel
theorem dX8_addresses_39 : decode cX8_addresses 39 = .ok (.iload_n 1, 1) := by decide +kernel
theorem dX8_addresses_40 : decode cX8_addresses 40 = .ok (.ireturn, 1) := by decide +kernel
theorem dX8_guessed_0 : decode cX8_guessed 0 = .ok (.iconst 0, 1) := by decide +kernel
theorem dX8_guessed_1 : decode cX8_guessed 1 = .ok (.istore_n 1, 1) := by decide +kernel
theorem dX8_guessed_2 : decode cX8_guessed 2 = .ok (.iconst 0, 1) := by decide +kernel
theorem dX8_guessed_3 : decode cX8_guessed 3 = .ok (.istore_n 2, 1) := by decide +kernel
theorem dX8_guessed_4 : decode cX8_guessed 4 = .ok (.iload_n 2, 1) := by decide +kernel
theorem dX8_guessed_5 : decode cX8_guessed 5 = .ok (.aload_n 0, 1) := by decide +kernel
theorem dX8_guessed_6 : decode cX8_guessed 6 = .ok (.getfield 160, 3) := by decide +kernel
theorem dX8_guessed_9 : decode cX8_guessed 9 = .ok (.if_icmp .ge 27, 3) := by decide +kernel
theorem dX8_guessed_12 : decode cX8_guessed 12 = .ok (.iload_n 1, 1) := by decide +kernel
theorem dX8_guessed_13 : decode cX8_guessed 13 = .ok (.aload_n 0, 1) := by decide +kernel
theorem dX8_guessed_14 : decode cX8_guessed 14 = .ok (.getfield 31, 3) := by decide +kernel
theorem dX8_guessed_17 : decode cX8_guessed 17 = .ok (.iload_n 2, 1) := by decide +kernel
theorem dX8_guessed_18 : decode cX8_guessed 18 = .ok (.iaload, 1) := by decide +kernel
theorem dX8_guessed_19 : decode cX8_guessed 19 = .ok (.iconst 2, 1) := by decide +kernel
theorem dX8_guessed_20 : decode cX8_guessed 20 = .ok (.if_icmp .ne 7, 3) := by decide +kernel
theorem dX8_guessed_23 : decode cX8_guessed 23 = .ok (.iconst 1, 1) := by decide +kernel
theorem dX8_guessed_24 : decode cX8_guessed 24 = .ok (.goto 4, 3) := by decide +kernel
theorem dX8_guessed_27 : decode cX8_guessed 27 = .ok (.iconst 0, 1) := by decide +kernel
theorem dX8_guessed_28 : decode cX8_guessed 28 = .ok (.iadd, 1) := by decide +kernel
theorem dX8_guessed_29 : decode cX8_guessed 29 = .ok (.istore_n 1, 1) := by decide +kernel
theorem dX8_guessed_30 : decode cX8_guessed 30 = .ok (.iinc 2 1, 3) := by decide +kernel
theorem dX8_guessed_33 : decode cX8_guessed 33 = .ok (.goto (-29), 3) := by decide +kernel
theorem dX8_guessed_36 : decode cX8_guessed 36 = .ok (.iload_n 1, 1) := by decide +kernel
theorem dX8_guessed_37 : decode cX8_guessed 37 = .ok (.ireturn, 1) := by decide +kernel
set_option maxRecDepth 20000 in
theorem ggX8_rule_X8_in : GoodIn wsX8_rule wsX8_in := goodIn_r _ [10] rfl rfl
set_option maxRecDepth 20000 in
theorem gX8_rule_X8_in : GoodIn wsX8_rule (va_wsS RX8 58 yX8_in wsX8_in) := goodIn_app (goodIn_of _ (by decide +kernel)) ggX8_rule_X8_in
set_option maxRecDepth 20000 in
theorem ggX8_rule_X8_guessed : GoodIn wsX8_rule wsX8_guessed := goodIn_r _ [14, 5, 15, 24, 25, 26, 27, 28, 29, 30, 31, 32, 33, 34, 35, 36, 37, 38, 39, 40, 41, 42, 43, 44, 45, 46, 47, 48, 49, 50, 51] rfl rfl
set_option maxRecDepth 20000 in
theorem gX8_rule_X8_guessed : GoodIn wsX8_rule (wsV RX8 170 RX8 yX8_guessed wsX8_guessed) := goodIn_app (goodIn_of _ (by decide +kernel)) ggX8_rule_X8_guessed
set_option maxRecDepth 20000 in
theorem ggX8_rule_X8_addresses : GoodIn wsX8_rule wsX8_addresses := goodIn_r _ [19, 4, 20, 21, 22, 9, 23, 24, 25, 26, 27, 28, 29, 30, 31, 32, 33, 34, 35, 36, 37, 38, 39, 40, 41, 42, 43, 44, 45, 46, 47, 48, 49, 50, 51] rfl rfl
set_option maxRecDepth 20000 in
theorem gX8_rule_X8_addresses : GoodIn wsX8_rule (wsV RX8 173 RX8 yX8_addresses wsX8_addresses) := goodIn_app (goodIn_of _ (by decide +kernel)) ggX8_rule_X8_addresses
theorem dX8_rule_0 : decode cX8_rule 0 = .ok (.iload_n 1, 1) := by decide +kernel
theorem dX8_rule_1 : decode cX8_rule 1 = .ok (.i2l, 1) := by decide +kernel
theorem dX8_rule_2 : decode cX8_rule 2 = .ok (.ldc2_w 163, 3) := by decide +kernel
theorem dX8_rule_5 : decode cX8_rule 5 = .ok (.ldc2_w 165, 3) := by decide +kernel
theorem dX8_rule_8 : decode cX8_rule 8 = .ok (.invokestatic 58, 3) := by decide +kernel
theorem dX8_rule_11 : decode cX8_rule 11 = .ok (.ifCond .eq 13, 3) := by decide +kernel
theorem dX8_rule_14 : decode cX8_rule 14 = .ok (.aload_n 0, 1) := by decide +kernel
theorem dX8_rule_15 : decode cX8_rule 15 = .ok (.getfield 146, 3) := by decide +kernel
theorem dX8_rule_18 : decode cX8_rule 18 = .ok (.ifCond .ne 6, 3) := by decide +kernel
theorem dX8_rule_21 : decode cX8_rule 21 = .ok (.bipush (-4), 2) := by decide +kernel
theorem dX8_rule_23 : decode cX8_rule 23 = .ok (.ireturn, 1) := by decide +kernel
theorem dX8_rule_24 : decode cX8_rule 24 = .ok (.iload_n 1, 1) := by decide +kernel
theorem dX8_rule_25 : decode cX8_rule 25 = .ok (.tableswitch 78 0 7 #[47, 47, 47, 47, 58, 63, 68, 73], 47) := by decide +kernel
theorem dX8_rule_72 : decode cX8_rule 72 = .ok (.aload_n 0, 1) := by decide +kernel
theorem dX8_rule_73 : decode cX8_rule 73 = .ok (.getfield 7, 3) := by decide +kernel
theorem dX8_rule_76 : decode cX8_rule 76 = .ok (.sipush 296, 3) := by decide +kernel
theorem dX8_rule_79 : decode cX8_rule 79 = .ok (.iload_n 1, 1) := by decide +kernel
theorem dX8_rule_80 : decode cX8_rule 80 = .ok (.iadd, 1) := by decide +kernel
theorem dX8_rule_81 : decode cX8_rule 81 = .ok (.iaload, 1) := by decide +kernel
theorem dX8_rule_82 : decode cX8_rule 82 = .ok (.ireturn, 1) := by decide +kernel
theorem dX8_rule_83 : decode cX8_rule 83 = .ok (.aload_n 0, 1) := by decide +kernel
theorem dX8_rule_84 : decode cX8_rule 84 = .ok (.getfield 160, 3) := by decide +kernel
theorem dX8_rule_87 : decode cX8_rule 87 = .ok (.ireturn, 1) := by decide +kernel
theorem dX8_rule_88 : decode cX8_rule 88 = .ok (.aload_n 0, 1) := by decide +kernel
theorem dX8_rule_89 : decode cX8_rule 89 = .ok (.getfield 167, 3) := by decide +kernel
theorem dX8_rule_92 : decode cX8_rule 92 = .ok (.ireturn, 1) := by decide +kernel
theorem dX8_rule_93 : decode cX8_rule 93 = .ok (.aload_n 0, 1) := by decide +kernel
theorem dX8_rule_94 : decode cX8_rule 94 = .ok (.invokevirtual 170, 3) := by decide +kernel
theorem dX8_rule_97 : decode cX8_rule 97 = .ok (.ireturn, 1) := by decide +kernel
theorem dX8_rule_98 : decode cX8_rule 98 = .ok (.aload_n 0, 1) := by decide +kernel
theorem dX8_rule_99 : decode cX8_rule 99 = .ok (.invokevirtual 173, 3) := by decide +kernel
theorem dX8_rule_102 : decode cX8_rule 102 = .ok (.ireturn, 1) := by decide +kernel
theorem dX8_rule_103 : decode cX8_rule 103 = .ok (.iconst (-1), 1) := by decide +kernel
theorem dX8_rule_104 : decode cX8_rule 104 = .ok (.ireturn, 1) := by decide +kernel
set_option maxRecDepth 20000 in
theorem ggX8_ofRoutine_X8_routines : GoodIn wsX8_ofRoutine wsX8_routines := goodIn_r _ [6, 1, 7, 8, 9, 10, 11, 12, 13, 14, 15, 16, 17, 18, 19, 20, 21, 22, 23, 24, 25, 26, 27, 28, 29, 30, 31, 32, 33, 34] rfl rfl
set_option maxRecDepth 20000 in
theorem gX8_ofRoutine_X8_routines : GoodIn wsX8_ofRoutine (wsV RX8 150 RX8 yX8_routines wsX8_routines) := goodIn_app (goodIn_of _ (by decide +kernel)) ggX8_ofRoutine_X8_routines
theorem dX8_ofRoutine_0 : decode cX8_ofRoutine 0 = .ok (.iconst 0, 1) := by decide +kernel
theorem dX8_ofRoutine_1 : decode cX8_ofRoutine 1 = .ok (.istore_n 3, 1) := by decide +kernel
theorem dX8_ofRoutine_2 : decode cX8_ofRoutine 2 = .ok (.iconst 0, 1) := by decide +kernel
theorem dX8_ofRoutine_3 : decode cX8_ofRoutine 3 = .ok (.istore 4, 2) := by decide +kernel
theorem dX8_ofRoutine_5 : decode cX8_ofRoutine 5 = .ok (.iload 4, 2) := by decide +kernel
theorem dX8_ofRoutine_7 : decode cX8_ofRoutine 7 = .ok (.aload_n 0, 1) := by decide +kernel
theorem dX8_ofRoutine_8 : decode cX8_ofRoutine 8 = .ok (.getfield 7, 3) := by decide +kernel
theorem dX8_ofRoutine_11 : decode cX8_ofRoutine 11 = .ok (.sipush 297, 3) := by decide +kernel
theorem dX8_ofRoutine_14 : decode cX8_ofRoutine 14 = .ok (.iaload, 1) := by decide +kernel
theorem dX8_ofRoutine_15 : decode cX8_ofRoutine 15 = .ok (.if_icmp .ge 37, 3) := by decide +kernel
theorem dX8_ofRoutine_18 : decode cX8_ofRoutine 18 = .ok (.iload_n 2, 1) := by decide +kernel
theorem dX8_ofRoutine_19 : decode cX8_ofRoutine 19 = .ok (.iconst 3, 1) := by decide +kernel
theorem dX8_ofRoutine_20 : decode cX8_ofRoutine 20 = .ok (.if_icmp .ne 32, 3) := by decide +kernel
theorem dX8_ofRoutine_23 : decode cX8_ofRoutine 23 = .ok (.iload_n 3, 1) := by decide +kernel
theorem dX8_ofRoutine_24 : decode cX8_ofRoutine 24 = .ok (.aload_n 0, 1) := by decide +kernel
theorem dX8_ofRoutine_25 : decode cX8_ofRoutine 25 = .ok (.getfield 7, 3) := by decide +kernel
theorem dX8_ofRoutine_28 : decode cX8_ofRoutine 28 = .ok (.sipush 144, 3) := by decide +kernel
theorem dX8_ofRoutine_31 : decode cX8_ofRoutine 31 = .ok (.iload 4, 2) := by decide +kernel
theorem dX8_ofRoutine_33 : decode cX8_ofRoutine 33 = .ok (.iadd, 1) := by decide +kernel
theorem dX8_ofRoutine_34 : decode cX8_ofRoutine 34 = .ok (.iaload, 1) := by decide +kernel
theorem dX8_ofRoutine_35 : decode cX8_ofRoutine 35 = .ok (.iload_n 1, 1) := by decide +kernel
theorem dX8_ofRoutine_36 : decode cX8_ofRoutine 36 = .ok (.if_icmp .ne 7, 3) := by decide +kernel
theorem dX8_ofRoutine_39 : decode cX8_ofRoutine 39 = .ok (.iconst 1, 1) := by decide +kernel
theorem dX8_ofRoutine_40 : decode cX8_ofRoutine 40 = .ok (.goto 4, 3) := by decide +kernel
theorem dX8_ofRoutine_43 : decode cX8_ofRoutine 43 = .ok (.iconst 0, 1) := by decide +kernel
theorem dX8_ofRoutine_44 : decode cX8_ofRoutine 44 = .ok (.iadd, 1) := by decide +kernel
theorem dX8_ofRoutine_45 : decode cX8_ofRoutine 45 = .ok (.istore_n 3, 1) := by decide +kernel
theorem dX8_ofRoutine_46 : decode cX8_ofRoutine 46 = .ok (.iinc 4 1, 3) := by decide +kernel
theorem dX8_ofRoutine_49 : decode cX8_ofRoutine 49 = .ok (.goto (-44), 3) := by decide +kernel
theorem dX8_ofRoutine_52 : decode cX8_ofRoutine 52 = .ok (.iconst 0, 1) := by decide +kernel
theorem dX8_ofRoutine_53 : decode cX8_ofRoutine 53 = .ok (.istore 4, 2) := by decide +kernel
theorem dX8_ofRoutine_55 : decode cX8_ofRoutine 55 = .ok (.iload 4, 2) := by decide +kernel
theorem dX8_ofRoutine_57 : decode cX8_ofRoutine 57 = .ok (.aload_n 0, 1) := by decide +kernel
theorem dX8_ofRoutine_58 : decode cX8_ofRoutine 58 = .ok (.getfield 7, 3) := by decide +kernel
theorem dX8_ofRoutine_61 : decode cX8_ofRoutine 61 = .ok (.sipush 298, 3) := by decide +kernel
theorem dX8_ofRoutine_64 : decode cX8_ofRoutine 64 = .ok (.iaload, 1) := by decide +kernel
theorem dX8_ofRoutine_65 : decode cX8_ofRoutine 65 = .ok (.if_icmp .ge 41, 3) := by decide +kernel
theorem dX8_ofRoutine_68 : decode cX8_ofRoutine 68 = .ok (.iload_n 2, 1) := by decide +kernel
theorem dX8_ofRoutine_69 : decode cX8_ofRoutine 69 = .ok (.iconst 4, 1) := by decide +kernel
theorem dX8_ofRoutine_70 : decode cX8_ofRoutine 70 = .ok (.if_icmp .ne 36, 3) := by decide +kernel
theorem dX8_ofRoutine_73 : decode cX8_ofRoutine 73 = .ok (.iload_n 3, 1) := by decide +kernel
theorem dX8_ofRoutine_74 : decode cX8_ofRoutine 74 = .ok (.aload_n 0, 1) := by decide +kernel
theorem dX8_ofRoutine_75 : decode cX8_ofRoutine 75 = .ok (.getfield 7, 3) := by decide +kernel
theorem dX8_ofRoutine_78 : decode cX8_ofRoutine 78 = .ok (.sipush 184, 3) := by decide +kernel
theorem dX8_ofRoutine_81 : decode cX8_ofRoutine 81 = .ok (.iconst 5, 1) := by decide +kernel
theorem dX8_ofRoutine_82 : decode cX8_ofRoutine 82 = .ok (.iload 4, 2) := by decide +kernel
theorem dX8_ofRoutine_84 : decode cX8_ofRoutine 84 = .ok (.imul, 1) := by decide +kernel
theorem dX8_ofRoutine_85 : decode cX8_ofRoutine 85 = .ok (.iadd, 1) := by decide +kernel
theorem dX8_ofRoutine_86 : decode cX8_ofRoutine 86 = .ok (.iconst 4, 1) := by decide +kernel
theorem dX8_ofRoutine_87 : decode cX8_ofRoutine 87 = .ok (.iadd, 1) := by decide +kernel
theorem dX8_ofRoutine_88 : decode cX8_ofRoutine 88 = .ok (.iaload, 1) := by decide +kernel
theorem dX8_ofRoutine_89 : decode cX8_ofRoutine 89 = .ok (.iload_n 1, 1) := by decide +kernel
theorem dX8_ofRoutine_90 : decode cX8_ofRoutine 90 = .ok (.if_icmp .ne 7, 3) := by decide +kernel
theorem dX8_ofRoutine_93 : decode cX8_ofRoutine 93 = .ok (.iconst 1, 1) := by decide +kernel
theorem dX8_ofRoutine_94 : decode cX8_ofRoutine 94 = .ok (.goto 4, 3) := by decide +kernel
theorem dX8_ofRoutine_97 : decode cX8_ofRoutine 97 = .ok (.iconst 0, 1) := by decide +kernel
theorem dX8_ofRoutine_98 : decode cX8_ofRoutine 98 = .ok (.iadd, 1) := by decide +kernel
theorem dX8_ofRoutine_99 : decode cX8_ofRoutine 99 = .ok (.istore_n 3, 1) := by decide +kernel
theorem dX8_ofRoutine_100 : decode cX8_ofRoutine 100 = .ok (.iinc 4 1, 3) := by decide +kernel
theorem dX8_ofRoutine_103 : decode cX8_ofRoutine 103 = .ok (.goto (-48), 3) := by decide +kernel
theorem dX8_ofRoutine_106 : decode cX8_ofRoutine 106 = .ok (.iconst 0, 1) := by decide +kernel
theorem dX8_ofRoutine_107 : decode cX8_ofRoutine 107 = .ok (.istore 4, 2) := by decide +kernel
theorem dX8_ofRoutine_109 : decode cX8_ofRoutine 109 = .ok (.iload 4, 2) := by decide +kernel
theorem dX8_ofRoutine_111 : decode cX8_ofRoutine 111 = .ok (.aload_n 0, 1) := by decide +kernel
theorem dX8_ofRoutine_112 : decode cX8_ofRoutine 112 = .ok (.invokevirtual 150, 3) := by decide +kernel
theorem dX8_ofRoutine_115 : decode cX8_ofRoutine 115 = .ok (.if_icmp .ge 38, 3) := by decide +kernel
theorem dX8_ofRoutine_118 : decode cX8_ofRoutine 118 = .ok (.iload_n 2, 1) := by decide +kernel
theorem dX8_ofRoutine_119 : decode cX8_ofRoutine 119 = .ok (.iconst 5, 1) := by decide +kernel
theorem dX8_ofRoutine_120 : decode cX8_ofRoutine 120 = .ok (.if_icmp .ne 33, 3) := by decide +kernel
theorem dX8_ofRoutine_123 : decode cX8_ofRoutine 123 = .ok (.iload_n 3, 1) := by decide +kernel
theorem dX8_ofRoutine_124 : decode cX8_ofRoutine 124 = .ok (.aload_n 0, 1) := by decide +kernel
theorem dX8_ofRoutine_125 : decode cX8_ofRoutine 125 = .ok (.getfield 7, 3) := by decide +kernel
theorem dX8_ofRoutine_128 : decode cX8_ofRoutine 128 = .ok (.iload 4, 2) := by decide +kernel
theorem dX8_ofRoutine_130 : decode cX8_ofRoutine 130 = .ok (.iaload, 1) := by decide +kernel
theorem dX8_ofRoutine_131 : decode cX8_ofRoutine 131 = .ok (.aload_n 0, 1) := by decide +kernel
theorem dX8_ofRoutine_132 : decode cX8_ofRoutine 132 = .ok (.getfield 7, 3) := by decide +kernel
theorem dX8_ofRoutine_135 : decode cX8_ofRoutine 135 = .ok (.iload_n 1, 1) := by decide +kernel
theorem dX8_ofRoutine_136 : decode cX8_ofRoutine 136 = .ok (.iaload, 1) := by decide +kernel
theorem dX8_ofRoutine_137 : decode cX8_ofRoutine 137 = .ok (.if_icmp .ge 7, 3) := by decide +kernel
theorem dX8_ofRoutine_140 : decode cX8_ofRoutine 140 = .ok (.iconst 1, 1) := by decide +kernel
theorem dX8_ofRoutine_141 : decode cX8_ofRoutine 141 = .ok (.goto 4, 3) := by decide +kernel
theorem dX8_ofRoutine_144 : decode cX8_ofRoutine 144 = .ok (.iconst 0, 1) := by decide +kernel
theorem dX8_ofRoutine_145 : decode cX8_ofRoutine 145 = .ok (.iadd, 1) := by decide +kernel
theorem dX8_ofRoutine_146 : decode cX8_ofRoutine 146 = .ok (.istore_n 3, 1) := by decide +kernel
theorem dX8_ofRoutine_147 : decode cX8_ofRoutine 147 = .ok (.iinc 4 1, 3) := by decide +kernel
theorem dX8_ofRoutine_150 : decode cX8_ofRoutine 150 = .ok (.goto (-41), 3) := by decide +kernel
theorem dX8_ofRoutine_153 : decode cX8_ofRoutine 153 = .ok (.iload_n 3, 1) := by decide +kernel
theorem dX8_ofRoutine_154 : decode cX8_ofRoutine 154 = .ok (.ireturn, 1) := by decide +kernel
set_option maxRecDepth 20000 in
theorem ggX8_routine_X8_isRoutine : GoodIn wsX8_routine wsX8_isRoutine := goodIn_r _ [7, 8, 9, 10, 6, 11, 2, 12, 13, 14, 19, 20, 21, 22, 23, 24, 25, 26, 27, 28, 29, 30, 31, 32, 33, 34, 35, 36, 37, 38, 39, 40, 41, 42, 43, 44, 45, 46] rfl rfl
set_option maxRecDepth 20000 in
theorem gX8_routine_X8_isRoutine : GoodIn wsX8_routine (wsV RX8 176 RX8 yX8_isRoutine wsX8_isRoutine) := goodIn_app (goodIn_of _ (by decide +kernel)) ggX8_routine_X8_isRoutine
set_option maxRecDepth 20000 in
theorem ggX8_routine_X8_in : GoodIn wsX8_routine wsX8_in := goodIn_r _ [14] rfl rfl
set_option maxRecDepth 20000 in
theorem gX8_routine_X8_in : GoodIn wsX8_routine (va_wsS RX8 58 yX8_in wsX8_in) := goodIn_app (goodIn_of _ (by decide +kernel)) ggX8_routine_X8_in
set_option maxRecDepth 20000 in
theorem ggX8_routine_X8_ofRoutine : GoodIn wsX8_routine wsX8_ofRoutine := goodIn_r _ [18, 2, 8, 9, 10, 6, 11, 19, 20, 21, 22, 23, 24, 25, 26, 27, 28, 29, 30, 31, 32, 33, 34, 35, 36, 37, 38, 39, 40, 41, 42, 43, 44, 45, 46] rfl rfl
set_option maxRecDepth 20000 in
theorem gX8_routine_X8_ofRoutine : GoodIn wsX8_routine (wsV RX8 179 RX8 yX8_ofRoutine wsX8_ofRoutine) := goodIn_app (goodIn_of _ (by decide +kernel)) ggX8_routine_X8_ofRoutine
theorem dX8_routine_0 : decode cX8_routine 0 = .ok (.aload_n 0, 1) := by decide +kernel
theorem dX8_routine_1 : decode cX8_routine 1 = .ok (.iload_n 1, 1) := by decide +kernel
theorem dX8_routine_2 : decode cX8_routine 2 = .ok (.invokevirtual 176, 3) := by decide +kernel
theorem dX8_routine_5 : decode cX8_routine 5 = .ok (.ifCond .eq 15, 3) := by decide +kernel
theorem dX8_routine_8 : decode cX8_routine 8 = .ok (.iload_n 2, 1) := by decide +kernel
theorem dX8_routine_9 : decode cX8_routine 9 = .ok (.i2l, 1) := by decide +kernel
theorem dX8_routine_10 : decode cX8_routine 10 = .ok (.lconst 0, 1) := by decide +kernel
theorem dX8_routine_11 : decode cX8_routine 11 = .ok (.ldc2_w 111, 3) := by decide +kernel
theorem dX8_routine_14 : decode cX8_routine 14 = .ok (.invokestatic 58, 3) := by decide +kernel
theorem dX8_routine_17 : decode cX8_routine 17 = .ok (.ifCond .ne 5, 3) := by decide +kernel
theorem dX8_routine_20 : decode cX8_routine 20 = .ok (.iconst (-1), 1) := by decide +kernel
theorem dX8_routine_21 : decode cX8_routine 21 = .ok (.ireturn, 1) := by decide +kernel
theorem dX8_routine_22 : decode cX8_routine 22 = .ok (.iload_n 2, 1) := by decide +kernel
theorem dX8_routine_23 : decode cX8_routine 23 = .ok (.iconst 3, 1) := by decide +kernel
theorem dX8_routine_24 : decode cX8_routine 24 = .ok (.if_icmp .ge 17, 3) := by decide +kernel
theorem dX8_routine_27 : decode cX8_routine 27 = .ok (.aload_n 0, 1) := by decide +kernel
theorem dX8_routine_28 : decode cX8_routine 28 = .ok (.getfield 7, 3) := by decide +kernel
theorem dX8_routine_31 : decode cX8_routine 31 = .ok (.bipush 8, 2) := by decide +kernel
theorem dX8_routine_33 : decode cX8_routine 33 = .ok (.iload_n 2, 1) := by decide +kernel
theorem dX8_routine_34 : decode cX8_routine 34 = .ok (.imul, 1) := by decide +kernel
theorem dX8_routine_35 : decode cX8_routine 35 = .ok (.iload_n 1, 1) := by decide +kernel
theorem dX8_routine_36 : decode cX8_routine 36 = .ok (.iadd, 1) := by decide +kernel
theorem dX8_routine_37 : decode cX8_routine 37 = .ok (.iaload, 1) := by decide +kernel
theorem dX8_routine_38 : decode cX8_routine 38 = .ok (.goto 9, 3) := by decide +kernel
theorem dX8_routine_41 : decode cX8_routine 41 = .ok (.aload_n 0, 1) := by decide +kernel
theorem dX8_routine_42 : decode cX8_routine 42 = .ok (.iload_n 1, 1) := by decide +kernel
theorem dX8_routine_43 : decode cX8_routine 43 = .ok (.iload_n 2, 1) := by decide +kernel
theorem dX8_routine_44 : decode cX8_routine 44 = .ok (.invokevirtual 179, 3) := by decide +kernel
theorem dX8_routine_47 : decode cX8_routine 47 = .ok (.ireturn, 1) := by decide +kernel
set_option maxRecDepth 20000 in
theorem ggX8_op_X8_in : GoodIn wsX8_op wsX8_in := goodIn_r _ [6] rfl rfl
set_option maxRecDepth 20000 in
theorem gX8_op_X8_in : GoodIn wsX8_op (va_wsS RX8 58 yX8_in wsX8_in) := goodIn_app (goodIn_of _ (by decide +kernel)) ggX8_op_X8_in
theorem dX8_op_0 : decode cX8_op 0 = .ok (.iload_n 1, 1) := by decide +kernel
theorem dX8_op_1 : decode cX8_op 1 = .ok (.i2l, 1) := by decide +kernel
theorem dX8_op_2 : decode cX8_op 2 = .ok (.lconst 0, 1) := by decide +kernel
theorem dX8_op_3 : decode cX8_op 3 = .ok (.aload_n 0, 1) := by decide +kernel
theorem dX8_op_4 : decode cX8_op 4 = .ok (.getfield 7, 3) := by decide +kernel
theorem dX8_op_7 : decode cX8_op 7 = .ok (.sipush 297, 3) := by decide +kernel
theorem dX8_op_10 : decode cX8_op 10 = .ok (.iaload, 1) := by decide +kernel
theorem dX8_op_11 : decode cX8_op 11 = .ok (.iconst 1, 1) := by decide +kernel
theorem dX8_op_12 : decode cX8_op 12 = .ok (.isub, 1) := by decide +kernel
theorem dX8_op_13 : decode cX8_op 13 = .ok (.i2l, 1) := by decide +kernel
theorem dX8_op_14 : decode cX8_op 14 = .ok (.invokestatic 58, 3) := by decide +kernel
theorem dX8_op_17 : decode cX8_op 17 = .ok (.ifCond .eq 32, 3) := by decide +kernel
theorem dX8_op_20 : decode cX8_op 20 = .ok (.iload_n 2, 1) := by decide +kernel
theorem dX8_op_21 : decode cX8_op 21 = .ok (.i2l, 1) := by decide +kernel
theorem dX8_op_22 : decode cX8_op 22 = .ok (.lconst 0, 1) := by decide +kernel
theorem dX8_op_23 : decode cX8_op 23 = .ok (.ldc2_w 109, 3) := by decide +kernel
theorem dX8_op_26 : decode cX8_op 26 = .ok (.invokestatic 58, 3) := by decide +kernel
theorem dX8_op_29 : decode cX8_op 29 = .ok (.ifCond .eq 20, 3) := by decide +kernel
theorem dX8_op_32 : decode cX8_op 32 = .ok (.aload_n 0, 1) := by decide +kernel
theorem dX8_op_33 : decode cX8_op 33 = .ok (.getfield 7, 3) := by decide +kernel
theorem dX8_op_36 : decode cX8_op 36 = .ok (.bipush 24, 2) := by decide +kernel
theorem dX8_op_38 : decode cX8_op 38 = .ok (.bipush 40, 2) := by decide +kernel
theorem dX8_op_40 : decode cX8_op 40 = .ok (.iload_n 2, 1) := by decide +kernel
theorem dX8_op_41 : decode cX8_op 41 = .ok (.imul, 1) := by decide +kernel
theorem dX8_op_42 : decode cX8_op 42 = .ok (.iadd, 1) := by decide +kernel
theorem dX8_op_43 : decode cX8_op 43 = .ok (.iload_n 1, 1) := by decide +kernel
theorem dX8_op_44 : decode cX8_op 44 = .ok (.iadd, 1) := by decide +kernel
theorem dX8_op_45 : decode cX8_op 45 = .ok (.iaload, 1) := by decide +kernel
theorem dX8_op_46 : decode cX8_op 46 = .ok (.goto 4, 3) := by decide +kernel
theorem dX8_op_49 : decode cX8_op 49 = .ok (.iconst (-1), 1) := by decide +kernel
theorem dX8_op_50 : decode cX8_op 50 = .ok (.ireturn, 1) := by decide +kernel
set_option maxRecDepth 20000 in
theorem ggX8_landing_X8_in : GoodIn wsX8_landing wsX8_in := goodIn_r _ [6] rfl rfl
set_option maxRecDepth 20000 in
theorem gX8_landing_X8_in : GoodIn wsX8_landing (va_wsS RX8 58 yX8_in wsX8_in) := goodIn_app (goodIn_of _ (by decide +kernel)) ggX8_landing_X8_in
theorem dX8_landing_0 : decode cX8_landing 0 = .ok (.iload_n 1, 1) := by decide +kernel
theorem dX8_landing_1 : decode cX8_landing 1 = .ok (.i2l, 1) := by decide +kernel
theorem dX8_landing_2 : decode cX8_landing 2 = .ok (.lconst 0, 1) := by decide +kernel
theorem dX8_landing_3 : decode cX8_landing 3 = .ok (.aload_n 0, 1) := by decide +kernel
theorem dX8_landing_4 : decode cX8_landing 4 = .ok (.getfield 7, 3) := by decide +kernel
theorem dX8_landing_7 : decode cX8_landing 7 = .ok (.sipush 298, 3) := by decide +kernel
theorem dX8_landing_10 : decode cX8_landing 10 = .ok (.iaload, 1) := by decide +kernel
theorem dX8_landing_11 : decode cX8_landing 11 = .ok (.iconst 1, 1) := by decide +kernel
theorem dX8_landing_12 : decode cX8_landing 12 = .ok (.isub, 1) := by decide +kernel
theorem dX8_landing_13 : decode cX8_landing 13 = .ok (.i2l, 1) := by decide +kernel
theorem dX8_landing_14 : decode cX8_landing 14 = .ok (.invokestatic 58, 3) := by decide +kernel
theorem dX8_landing_17 : decode cX8_landing 17 = .ok (.ifCond .eq 32, 3) := by decide +kernel
theorem dX8_landing_20 : decode cX8_landing 20 = .ok (.iload_n 2, 1) := by decide +kernel
theorem dX8_landing_21 : decode cX8_landing 21 = .ok (.i2l, 1) := by decide +kernel
theorem dX8_landing_22 : decode cX8_landing 22 = .ok (.lconst 0, 1) := by decide +kernel
theorem dX8_landing_23 : decode cX8_landing 23 = .ok (.ldc2_w 163, 3) := by decide +kernel
theorem dX8_landing_26 : decode cX8_landing 26 = .ok (.invokestatic 58, 3) := by decide +kernel
theorem dX8_landing_29 : decode cX8_landing 29 = .ok (.ifCond .eq 20, 3) := by decide +kernel
theorem dX8_landing_32 : decode cX8_landing 32 = .ok (.aload_n 0, 1) := by decide +kernel
theorem dX8_landing_33 : decode cX8_landing 33 = .ok (.getfield 7, 3) := by decide +kernel
theorem dX8_landing_36 : decode cX8_landing 36 = .ok (.sipush 184, 3) := by decide +kernel
theorem dX8_landing_39 : decode cX8_landing 39 = .ok (.iconst 5, 1) := by decide +kernel
theorem dX8_landing_40 : decode cX8_landing 40 = .ok (.iload_n 1, 1) := by decide +kernel
theorem dX8_landing_41 : decode cX8_landing 41 = .ok (.imul, 1) := by decide +kernel
theorem dX8_landing_42 : decode cX8_landing 42 = .ok (.iadd, 1) := by decide +kernel
theorem dX8_landing_43 : decode cX8_landing 43 = .ok (.iload_n 2, 1) := by decide +kernel
theorem dX8_landing_44 : decode cX8_landing 44 = .ok (.iadd, 1) := by decide +kernel
theorem dX8_landing_45 : decode cX8_landing 45 = .ok (.iaload, 1) := by decide +kernel
theorem dX8_landing_46 : decode cX8_landing 46 = .ok (.goto 4, 3) := by decide +kernel
theorem dX8_landing_49 : decode cX8_landing 49 = .ok (.iconst (-1), 1) := by decide +kernel
theorem dX8_landing_50 : decode cX8_landing 50 = .ok (.ireturn, 1) := by decide +kernel
theorem dX8_aheadOf_0 : decode cX8_aheadOf 0 = .ok (.iconst 0, 1) := by decide +kernel
theorem dX8_aheadOf_1 : decode cX8_aheadOf 1 = .ok (.istore_n 2, 1) := by decide +kernel
theorem dX8_aheadOf_2 : decode cX8_aheadOf 2 = .ok (.iconst 0, 1) := by decide +kernel
theorem dX8_aheadOf_3 : decode cX8_aheadOf 3 = .ok (.istore_n 3, 1) := by decide +kernel
theorem dX8_aheadOf_4 : decode cX8_aheadOf 4 = .ok (.iload_n 3, 1) := by decide +kernel
theorem dX8_aheadOf_5 : decode cX8_aheadOf 5 = .ok (.aload_n 0, 1) := by decide +kernel
theorem dX8_aheadOf_6 : decode cX8_aheadOf 6 = .ok (.getfield 7, 3) := by decide +kernel
theorem dX8_aheadOf_9 : decode cX8_aheadOf 9 = .ok (.sipush 299, 3) := by decide +kernel
theorem dX8_aheadOf_12 : decode cX8_aheadOf 12 = .ok (.iaload, 1) := by decide +kernel
theorem dX8_aheadOf_13 : decode cX8_aheadOf 13 = .ok (.if_icmp .ge 64, 3) := by decide +kernel
theorem dX8_aheadOf_16 : decode cX8_aheadOf 16 = .ok (.aload_n 0, 1) := by decide +kernel
theorem dX8_aheadOf_17 : decode cX8_aheadOf 17 = .ok (.getfield 7, 3) := by decide +kernel
theorem dX8_aheadOf_20 : decode cX8_aheadOf 20 = .ok (.sipush 264, 3) := by decide +kernel
theorem dX8_aheadOf_23 : decode cX8_aheadOf 23 = .ok (.iconst 2, 1) := by decide +kernel
theorem dX8_aheadOf_24 : decode cX8_aheadOf 24 = .ok (.iload_n 3, 1) := by decide +kernel
theorem dX8_aheadOf_25 : decode cX8_aheadOf 25 = .ok (.imul, 1) := by decide +kernel
theorem dX8_aheadOf_26 : decode cX8_aheadOf 26 = .ok (.iadd, 1) := by decide +kernel
theorem dX8_aheadOf_27 : decode cX8_aheadOf 27 = .ok (.iaload, 1) := by decide +kernel
theorem dX8_aheadOf_28 : decode cX8_aheadOf 28 = .ok (.istore 4, 2) := by decide +kernel
theorem dX8_aheadOf_30 : decode cX8_aheadOf 30 = .ok (.aload_n 0, 1) := by decide +kernel
theorem dX8_aheadOf_31 : decode cX8_aheadOf 31 = .ok (.getfield 7, 3) := by decide +kernel
theorem dX8_aheadOf_34 : decode cX8_aheadOf 34 = .ok (.sipush 264, 3) := by decide +kernel
theorem dX8_aheadOf_37 : decode cX8_aheadOf 37 = .ok (.iconst 2, 1) := by decide +kernel
theorem dX8_aheadOf_38 : decode cX8_aheadOf 38 = .ok (.iload_n 1, 1) := by decide +kernel
theorem dX8_aheadOf_39 : decode cX8_aheadOf 39 = .ok (.imul, 1) := by decide +kernel
theorem dX8_aheadOf_40 : decode cX8_aheadOf 40 = .ok (.iadd, 1) := by decide +kernel
theorem dX8_aheadOf_41 : decode cX8_aheadOf 41 = .ok (.iaload, 1) := by decide +kernel
theorem dX8_aheadOf_42 : decode cX8_aheadOf 42 = .ok (.istore 5, 2) := by decide +kernel
theorem dX8_aheadOf_44 : decode cX8_aheadOf 44 = .ok (.iload_n 2, 1) := by decide +kernel
theorem dX8_aheadOf_45 : decode cX8_aheadOf 45 = .ok (.iload 4, 2) := by decide +kernel
theorem dX8_aheadOf_47 : decode cX8_aheadOf 47 = .ok (.iload 5, 2) := by decide +kernel
theorem dX8_aheadOf_49 : decode cX8_aheadOf 49 = .ok (.if_icmp .lt 15, 3) := by decide +kernel
theorem dX8_aheadOf_52 : decode cX8_aheadOf 52 = .ok (.iload 4, 2) := by decide +kernel
theorem dX8_aheadOf_54 : decode cX8_aheadOf 54 = .ok (.iload 5, 2) := by decide +kernel
theorem dX8_aheadOf_56 : decode cX8_aheadOf 56 = .ok (.if_icmp .ne 12, 3) := by decide +kernel
theorem dX8_aheadOf_59 : decode cX8_aheadOf 59 = .ok (.iload_n 3, 1) := by decide +kernel
theorem dX8_aheadOf_60 : decode cX8_aheadOf 60 = .ok (.iload_n 1, 1) := by decide +kernel
theorem dX8_aheadOf_61 : decode cX8_aheadOf 61 = .ok (.if_icmp .ge 7, 3) := by decide +kernel
theorem dX8_aheadOf_64 : decode cX8_aheadOf 64 = .ok (.iconst 1, 1) := by decide +kernel
theorem dX8_aheadOf_65 : decode cX8_aheadOf 65 = .ok (.goto 4, 3) := by decide +kernel
theorem dX8_aheadOf_68 : decode cX8_aheadOf 68 = .ok (.iconst 0, 1) := by decide +kernel
theorem dX8_aheadOf_69 : decode cX8_aheadOf 69 = .ok (.iadd, 1) := by decide +kernel
theorem dX8_aheadOf_70 : decode cX8_aheadOf 70 = .ok (.istore_n 2, 1) := by decide +kernel
theorem dX8_aheadOf_71 : decode cX8_aheadOf 71 = .ok (.iinc 3 1, 3) := by decide +kernel
theorem dX8_aheadOf_74 : decode cX8_aheadOf 74 = .ok (.goto (-70), 3) := by decide +kernel
theorem dX8_aheadOf_77 : decode cX8_aheadOf 77 = .ok (.iload_n 2, 1) := by decide +kernel
theorem dX8_aheadOf_78 : decode cX8_aheadOf 78 = .ok (.ireturn, 1) := by decide +kernel
set_option maxRecDepth 20000 in
theorem ggX8_call_X8_in : GoodIn wsX8_call wsX8_in := goodIn_r _ [6] rfl rfl
set_option maxRecDepth 20000 in
theorem gX8_call_X8_in : GoodIn wsX8_call (va_wsS RX8 58 yX8_in wsX8_in) := goodIn_app (goodIn_of _ (by decide +kernel)) ggX8_call_X8_in
set_option maxRecDepth 20000 in
theorem ggX8_call_X8_aheadOf : GoodIn wsX8_call wsX8_aheadOf := goodIn_r _ [10, 1, 11, 12, 13, 14, 15, 16, 17, 18, 19, 20, 21, 22, 23, 24, 25, 26, 27, 28, 29, 30, 31, 32, 33, 34, 35, 36, 37, 38] rfl rfl
set_option maxRecDepth 20000 in
theorem gX8_call_X8_aheadOf : GoodIn wsX8_call (wsV RX8 182 RX8 yX8_aheadOf wsX8_aheadOf) := goodIn_app (goodIn_of _ (by decide +kernel)) ggX8_call_X8_aheadOf
theorem dX8_call_0 : decode cX8_call 0 = .ok (.iload_n 1, 1) := by decide +kernel
theorem dX8_call_1 : decode cX8_call 1 = .ok (.i2l, 1) := by decide +kernel
theorem dX8_call_2 : decode cX8_call 2 = .ok (.lconst 0, 1) := by decide +kernel
theorem dX8_call_3 : decode cX8_call 3 = .ok (.aload_n 0, 1) := by decide +kernel
theorem dX8_call_4 : decode cX8_call 4 = .ok (.getfield 7, 3) := by decide +kernel
theorem dX8_call_7 : decode cX8_call 7 = .ok (.sipush 299, 3) := by decide +kernel
theorem dX8_call_10 : decode cX8_call 10 = .ok (.iaload, 1) := by decide +kernel
theorem dX8_call_11 : decode cX8_call 11 = .ok (.iconst 1, 1) := by decide +kernel
theorem dX8_call_12 : decode cX8_call 12 = .ok (.isub, 1) := by decide +kernel
theorem dX8_call_13 : decode cX8_call 13 = .ok (.i2l, 1) := by decide +kernel
theorem dX8_call_14 : decode cX8_call 14 = .ok (.invokestatic 58, 3) := by decide +kernel
theorem dX8_call_17 : decode cX8_call 17 = .ok (.ifCond .eq 15, 3) := by decide +kernel
theorem dX8_call_20 : decode cX8_call 20 = .ok (.iload_n 2, 1) := by decide +kernel
theorem dX8_call_21 : decode cX8_call 21 = .ok (.i2l, 1) := by decide +kernel
theorem dX8_call_22 : decode cX8_call 22 = .ok (.lconst 0, 1) := by decide +kernel
theorem dX8_call_23 : decode cX8_call 23 = .ok (.ldc2_w 123, 3) := by decide +kernel
theorem dX8_call_26 : decode cX8_call 26 = .ok (.invokestatic 58, 3) := by decide +kernel
theorem dX8_call_29 : decode cX8_call 29 = .ok (.ifCond .ne 5, 3) := by decide +kernel
theorem dX8_call_32 : decode cX8_call 32 = .ok (.iconst (-1), 1) := by decide +kernel
theorem dX8_call_33 : decode cX8_call 33 = .ok (.ireturn, 1) := by decide +kernel
theorem dX8_call_34 : decode cX8_call 34 = .ok (.iconst 0, 1) := by decide +kernel
theorem dX8_call_35 : decode cX8_call 35 = .ok (.istore_n 3, 1) := by decide +kernel
theorem dX8_call_36 : decode cX8_call 36 = .ok (.aload_n 0, 1) := by decide +kernel
theorem dX8_call_37 : decode cX8_call 37 = .ok (.iload_n 3, 1) := by decide +kernel
theorem dX8_call_38 : decode cX8_call 38 = .ok (.invokevirtual 182, 3) := by decide +kernel
theorem dX8_call_41 : decode cX8_call 41 = .ok (.iload_n 1, 1) := by decide +kernel
theorem dX8_call_42 : decode cX8_call 42 = .ok (.if_icmp .eq 9, 3) := by decide +kernel
theorem dX8_call_45 : decode cX8_call 45 = .ok (.iinc 3 1, 3) := by decide +kernel
theorem dX8_call_48 : decode cX8_call 48 = .ok (.goto (-12), 3) := by decide +kernel
theorem dX8_call_51 : decode cX8_call 51 = .ok (.iload_n 2, 1) := by decide +kernel
theorem dX8_call_52 : decode cX8_call 52 = .ok (.iconst 2, 1) := by decide +kernel
theorem dX8_call_53 : decode cX8_call 53 = .ok (.if_icmp .ne 7, 3) := by decide +kernel
theorem dX8_call_56 : decode cX8_call 56 = .ok (.iload_n 3, 1) := by decide +kernel
theorem dX8_call_57 : decode cX8_call 57 = .ok (.goto 17, 3) := by decide +kernel
theorem dX8_call_60 : decode cX8_call 60 = .ok (.aload_n 0, 1) := by decide +kernel
theorem dX8_call_61 : decode cX8_call 61 = .ok (.getfield 7, 3) := by decide +kernel
theorem dX8_call_64 : decode cX8_call 64 = .ok (.sipush 264, 3) := by decide +kernel
theorem dX8_call_67 : decode cX8_call 67 = .ok (.iconst 2, 1) := by decide +kernel
theorem dX8_call_68 : decode cX8_call 68 = .ok (.iload_n 3, 1) := by decide +kernel
theorem dX8_call_69 : decode cX8_call 69 = .ok (.imul, 1) := by decide +kernel
theorem dX8_call_70 : decode cX8_call 70 = .ok (.iadd, 1) := by decide +kernel
theorem dX8_call_71 : decode cX8_call 71 = .ok (.iload_n 2, 1) := by decide +kernel
theorem dX8_call_72 : decode cX8_call 72 = .ok (.iadd, 1) := by decide +kernel
theorem dX8_call_73 : decode cX8_call 73 = .ok (.iaload, 1) := by decide +kernel
theorem dX8_call_74 : decode cX8_call 74 = .ok (.ireturn, 1) := by decide +kernel
theorem dX8_begins_0 : decode cX8_begins 0 = .ok (.aload_n 0, 1) := by decide +kernel
theorem dX8_begins_1 : decode cX8_begins 1 = .ok (.getfield 22, 3) := by decide +kernel
theorem dX8_begins_4 : decode cX8_begins 4 = .ok (.iconst 0, 1) := by decide +kernel
theorem dX8_begins_5 : decode cX8_begins 5 = .ok (.iconst 4, 1) := by decide +kernel
theorem dX8_begins_6 : decode cX8_begins 6 = .ok (.iastore, 1) := by decide +kernel
theorem dX8_begins_7 : decode cX8_begins 7 = .ok (.aload_n 0, 1) := by decide +kernel
theorem dX8_begins_8 : decode cX8_begins 8 = .ok (.getfield 22, 3) := by decide +kernel
theorem dX8_begins_11 : decode cX8_begins 11 = .ok (.iconst 1, 1) := by decide +kernel
theorem dX8_begins_12 : decode cX8_begins 12 = .ok (.iconst 1, 1) := by decide +kernel
theorem dX8_begins_13 : decode cX8_begins 13 = .ok (.iastore, 1) := by decide +kernel
theorem dX8_begins_14 : decode cX8_begins 14 = .ok (.iconst 0, 1) := by decide +kernel
theorem dX8_begins_15 : decode cX8_begins 15 = .ok (.istore_n 1, 1) := by decide +kernel
theorem dX8_begins_16 : decode cX8_begins 16 = .ok (.iload_n 1, 1) := by decide +kernel
theorem dX8_begins_17 : decode cX8_begins 17 = .ok (.bipush 6, 2) := by decide +kernel
theorem dX8_begins_19 : decode cX8_begins 19 = .ok (.if_icmp .ge 47, 3) := by decide +kernel
theorem dX8_begins_22 : decode cX8_begins 22 = .ok (.aload_n 0, 1) := by decide +kernel
theorem dX8_begins_23 : decode cX8_begins 23 = .ok (.getfield 22, 3) := by decide +kernel
theorem dX8_begins_26 : decode cX8_begins 26 = .ok (.iconst 2, 1) := by decide +kernel
theorem dX8_begins_27 : decode cX8_begins 27 = .ok (.iload_n 1, 1) := by decide +kernel
theorem dX8_begins_28 : decode cX8_begins 28 = .ok (.iadd, 1) := by decide +kernel
theorem dX8_begins_29 : decode cX8_begins 29 = .ok (.iload_n 1, 1) := by decide +kernel
theorem dX8_begins_30 : decode cX8_begins 30 = .ok (.iconst 5, 1) := by decide +kernel
theorem dX8_begins_31 : decode cX8_begins 31 = .ok (.if_icmp .ne 7, 3) := by decide +kernel
theorem dX8_begins_34 : decode cX8_begins 34 = .ok (.iconst 1, 1) := by decide +kernel
theorem dX8_begins_35 : decode cX8_begins 35 = .ok (.goto 4, 3) := by decide +kernel
theorem dX8_begins_38 : decode cX8_begins 38 = .ok (.iconst 0, 1) := by decide +kernel
theorem dX8_begins_39 : decode cX8_begins 39 = .ok (.iastore, 1) := by decide +kernel
theorem dX8_begins_40 : decode cX8_begins 40 = .ok (.aload_n 0, 1) := by decide +kernel
theorem dX8_begins_41 : decode cX8_begins 41 = .ok (.getfield 22, 3) := by decide +kernel
theorem dX8_begins_44 : decode cX8_begins 44 = .ok (.bipush 8, 2) := by decide +kernel
theorem dX8_begins_46 : decode cX8_begins 46 = .ok (.iload_n 1, 1) := by decide +kernel
theorem dX8_begins_47 : decode cX8_begins 47 = .ok (.iadd, 1) := by decide +kernel
theorem dX8_begins_48 : decode cX8_begins 48 = .ok (.iload_n 1, 1) := by decide +kernel
theorem dX8_begins_49 : decode cX8_begins 49 = .ok (.iconst 5, 1) := by decide +kernel
theorem dX8_begins_50 : decode cX8_begins 50 = .ok (.if_icmp .ne 7, 3) := by decide +kernel
theorem dX8_begins_53 : decode cX8_begins 53 = .ok (.iconst 1, 1) := by decide +kernel
theorem dX8_begins_54 : decode cX8_begins 54 = .ok (.goto 5, 3) := by decide +kernel
theorem dX8_begins_57 : decode cX8_begins 57 = .ok (.bipush (-4), 2) := by decide +kernel
theorem dX8_begins_59 : decode cX8_begins 59 = .ok (.iastore, 1) := by decide +kernel
theorem dX8_begins_60 : decode cX8_begins 60 = .ok (.iinc 1 1, 3) := by decide +kernel
theorem dX8_begins_63 : decode cX8_begins 63 = .ok (.goto (-47), 3) := by decide +kernel
theorem dX8_begins_66 : decode cX8_begins 66 = .ok (.return_, 1) := by decide +kernel
theorem dX8_ruled_0 : decode cX8_ruled 0 = .ok (.aload_n 0, 1) := by decide +kernel
theorem dX8_ruled_1 : decode cX8_ruled 1 = .ok (.getfield 22, 3) := by decide +kernel
theorem dX8_ruled_4 : decode cX8_ruled 4 = .ok (.iconst 2, 1) := by decide +kernel
theorem dX8_ruled_5 : decode cX8_ruled 5 = .ok (.iload_n 1, 1) := by decide +kernel
theorem dX8_ruled_6 : decode cX8_ruled 6 = .ok (.iadd, 1) := by decide +kernel
theorem dX8_ruled_7 : decode cX8_ruled 7 = .ok (.iload_n 2, 1) := by decide +kernel
theorem dX8_ruled_8 : decode cX8_ruled 8 = .ok (.iastore, 1) := by decide +kernel
theorem dX8_ruled_9 : decode cX8_ruled 9 = .ok (.aload_n 0, 1) := by decide +kernel
theorem dX8_ruled_10 : decode cX8_ruled 10 = .ok (.getfield 22, 3) := by decide +kernel
theorem dX8_ruled_13 : decode cX8_ruled 13 = .ok (.bipush 8, 2) := by decide +kernel
theorem dX8_ruled_15 : decode cX8_ruled 15 = .ok (.iload_n 1, 1) := by decide +kernel
theorem dX8_ruled_16 : decode cX8_ruled 16 = .ok (.iadd, 1) := by decide +kernel
theorem dX8_ruled_17 : decode cX8_ruled 17 = .ok (.iload_n 3, 1) := by decide +kernel
theorem dX8_ruled_18 : decode cX8_ruled 18 = .ok (.iastore, 1) := by decide +kernel
theorem dX8_ruled_19 : decode cX8_ruled 19 = .ok (.return_, 1) := by decide +kernel
theorem dX8_marks_0 : decode cX8_marks 0 = .ok (.aload_n 0, 1) := by decide +kernel
theorem dX8_marks_1 : decode cX8_marks 1 = .ok (.getfield 185, 3) := by decide +kernel
theorem dX8_marks_4 : decode cX8_marks 4 = .ok (.iconst 3, 1) := by decide +kernel
theorem dX8_marks_5 : decode cX8_marks 5 = .ok (.if_icmp .ge 47, 3) := by decide +kernel
theorem dX8_marks_8 : decode cX8_marks 8 = .ok (.iconst 0, 1) := by decide +kernel
theorem dX8_marks_9 : decode cX8_marks 9 = .ok (.istore_n 1, 1) := by decide +kernel
theorem dX8_marks_10 : decode cX8_marks 10 = .ok (.iload_n 1, 1) := by decide +kernel
theorem dX8_marks_11 : decode cX8_marks 11 = .ok (.bipush 14, 2) := by decide +kernel
theorem dX8_marks_13 : decode cX8_marks 13 = .ok (.if_icmp .ge 29, 3) := by decide +kernel
theorem dX8_marks_16 : decode cX8_marks 16 = .ok (.aload_n 0, 1) := by decide +kernel
theorem dX8_marks_17 : decode cX8_marks 17 = .ok (.getfield 25, 3) := by decide +kernel
theorem dX8_marks_20 : decode cX8_marks 20 = .ok (.bipush 14, 2) := by decide +kernel
theorem dX8_marks_22 : decode cX8_marks 22 = .ok (.aload_n 0, 1) := by decide +kernel
theorem dX8_marks_23 : decode cX8_marks 23 = .ok (.getfield 185, 3) := by decide +kernel
theorem dX8_marks_26 : decode cX8_marks 26 = .ok (.imul, 1) := by decide +kernel
