theorem dX10_init_0 : decode cX10_init 0 = .ok (.aload_n 0, 1) := by decide +kernel
theorem dX10_init_1 : decode cX10_init 1 = .ok (.invokespecial 1, 3) := by decide +kernel
theorem dX10_init_4 : decode cX10_init 4 = .ok (.aload_n 0, 1) := by decide +kernel
theorem dX10_init_5 : decode cX10_init 5 = .ok (.iconst 3, 1) := by decide +kernel
theorem dX10_init_6 : decode cX10_init 6 = .ok (.newarray .long, 2) := by decide +kernel
theorem dX10_init_8 : decode cX10_init 8 = .ok (.putfield 7, 3) := by decide +kernel
theorem dX10_init_11 : decode cX10_init 11 = .ok (.aload_n 0, 1) := by decide +kernel
theorem dX10_init_12 : decode cX10_init 12 = .ok (.iconst 5, 1) := by decide +kernel
theorem dX10_init_13 : decode cX10_init 13 = .ok (.newarray .int, 2) := by decide +kernel
theorem dX10_init_15 : decode cX10_init 15 = .ok (.putfield 13, 3) := by decide +kernel
theorem dX10_init_18 : decode cX10_init 18 = .ok (.aload_n 0, 1) := by decide +kernel
theorem dX10_init_19 : decode cX10_init 19 = .ok (.iconst 5, 1) := by decide +kernel
theorem dX10_init_20 : decode cX10_init 20 = .ok (.newarray .int, 2) := by decide +kernel
theorem dX10_init_22 : decode cX10_init 22 = .ok (.putfield 17, 3) := by decide +kernel
theorem dX10_init_25 : decode cX10_init 25 = .ok (.aload_n 0, 1) := by decide +kernel
theorem dX10_init_26 : decode cX10_init 26 = .ok (.iconst 5, 1) := by decide +kernel
theorem dX10_init_27 : decode cX10_init 27 = .ok (.newarray .int, 2) := by decide +kernel
theorem dX10_init_29 : decode cX10_init 29 = .ok (.putfield 20, 3) := by decide +kernel
theorem dX10_init_32 : decode cX10_init 32 = .ok (.aload_n 0, 1) := by decide +kernel
theorem dX10_init_33 : decode cX10_init 33 = .ok (.iconst 5, 1) := by decide +kernel
theorem dX10_init_34 : decode cX10_init 34 = .ok (.newarray .int, 2) := by decide +kernel
theorem dX10_init_36 : decode cX10_init 36 = .ok (.putfield 23, 3) := by decide +kernel
theorem dX10_init_39 : decode cX10_init 39 = .ok (.aload_n 0, 1) := by decide +kernel
theorem dX10_init_40 : decode cX10_init 40 = .ok (.iconst 5, 1) := by decide +kernel
theorem dX10_init_41 : decode cX10_init 41 = .ok (.newarray .int, 2) := by decide +kernel
theorem dX10_init_43 : decode cX10_init 43 = .ok (.putfield 26, 3) := by decide +kernel
theorem dX10_init_46 : decode cX10_init 46 = .ok (.aload_n 0, 1) := by decide +kernel
theorem dX10_init_47 : decode cX10_init 47 = .ok (.iconst 5, 1) := by decide +kernel
theorem dX10_init_48 : decode cX10_init 48 = .ok (.newarray .int, 2) := by decide +kernel
theorem dX10_init_50 : decode cX10_init 50 = .ok (.putfield 29, 3) := by decide +kernel
theorem dX10_init_53 : decode cX10_init 53 = .ok (.aload_n 0, 1) := by decide +kernel
theorem dX10_init_54 : decode cX10_init 54 = .ok (.sipush 160, 3) := by decide +kernel
theorem dX10_init_57 : decode cX10_init 57 = .ok (.newarray .int, 2) := by decide +kernel
theorem dX10_init_59 : decode cX10_init 59 = .ok (.putfield 32, 3) := by decide +kernel
theorem dX10_init_62 : decode cX10_init 62 = .ok (.aload_n 0, 1) := by decide +kernel
theorem dX10_init_63 : decode cX10_init 63 = .ok (.sipush 1200, 3) := by decide +kernel
theorem dX10_init_66 : decode cX10_init 66 = .ok (.newarray .int, 2) := by decide +kernel
theorem dX10_init_68 : decode cX10_init 68 = .ok (.putfield 35, 3) := by decide +kernel
theorem dX10_init_71 : decode cX10_init 71 = .ok (.aload_n 0, 1) := by decide +kernel
theorem dX10_init_72 : decode cX10_init 72 = .ok (.bipush 24, 2) := by decide +kernel
theorem dX10_init_74 : decode cX10_init 74 = .ok (.newarray .int, 2) := by decide +kernel
theorem dX10_init_76 : decode cX10_init 76 = .ok (.putfield 38, 3) := by decide +kernel
theorem dX10_init_79 : decode cX10_init 79 = .ok (.aload_n 0, 1) := by decide +kernel
theorem dX10_init_80 : decode cX10_init 80 = .ok (.iconst 3, 1) := by decide +kernel
theorem dX10_init_81 : decode cX10_init 81 = .ok (.newarray .long, 2) := by decide +kernel
theorem dX10_init_83 : decode cX10_init 83 = .ok (.putfield 41, 3) := by decide +kernel
theorem dX10_init_86 : decode cX10_init 86 = .ok (.aload_n 0, 1) := by decide +kernel
theorem dX10_init_87 : decode cX10_init 87 = .ok (.iconst 5, 1) := by decide +kernel
theorem dX10_init_88 : decode cX10_init 88 = .ok (.newarray .int, 2) := by decide +kernel
theorem dX10_init_90 : decode cX10_init 90 = .ok (.putfield 44, 3) := by decide +kernel
theorem dX10_init_93 : decode cX10_init 93 = .ok (.aload_n 0, 1) := by decide +kernel
theorem dX10_init_94 : decode cX10_init 94 = .ok (.iconst 5, 1) := by decide +kernel
theorem dX10_init_95 : decode cX10_init 95 = .ok (.newarray .int, 2) := by decide +kernel
theorem dX10_init_97 : decode cX10_init 97 = .ok (.putfield 47, 3) := by decide +kernel
theorem dX10_init_100 : decode cX10_init 100 = .ok (.aload_n 0, 1) := by decide +kernel
theorem dX10_init_101 : decode cX10_init 101 = .ok (.iconst 4, 1) := by decide +kernel
theorem dX10_init_102 : decode cX10_init 102 = .ok (.newarray .int, 2) := by decide +kernel
theorem dX10_init_104 : decode cX10_init 104 = .ok (.dup, 1) := by decide +kernel
theorem dX10_init_105 : decode cX10_init 105 = .ok (.iconst 0, 1) := by decide +kernel
theorem dX10_init_106 : decode cX10_init 106 = .ok (.iconst (-1), 1) := by decide +kernel
theorem dX10_init_107 : decode cX10_init 107 = .ok (.iastore, 1) := by decide +kernel
theorem dX10_init_108 : decode cX10_init 108 = .ok (.dup, 1) := by decide +kernel
theorem dX10_init_109 : decode cX10_init 109 = .ok (.iconst 1, 1) := by decide +kernel
theorem dX10_init_110 : decode cX10_init 110 = .ok (.iconst (-1), 1) := by decide +kernel
theorem dX10_init_111 : decode cX10_init 111 = .ok (.iastore, 1) := by decide +kernel
theorem dX10_init_112 : decode cX10_init 112 = .ok (.dup, 1) := by decide +kernel
theorem dX10_init_113 : decode cX10_init 113 = .ok (.iconst 2, 1) := by decide +kernel
theorem dX10_init_114 : decode cX10_init 114 = .ok (.iconst (-1), 1) := by decide +kernel
theorem dX10_init_115 : decode cX10_init 115 = .ok (.iastore, 1) := by decide +kernel
theorem dX10_init_116 : decode cX10_init 116 = .ok (.dup, 1) := by decide +kernel
theorem dX10_init_117 : decode cX10_init 117 = .ok (.iconst 3, 1) := by decide +kernel
theorem dX10_init_118 : decode cX10_init 118 = .ok (.iconst (-1), 1) := by decide +kernel
theorem dX10_init_119 : decode cX10_init 119 = .ok (.iastore, 1) := by decide +kernel
theorem dX10_init_120 : decode cX10_init 120 = .ok (.putfield 50, 3) := by decide +kernel
theorem dX10_init_123 : decode cX10_init 123 = .ok (.aload_n 0, 1) := by decide +kernel
theorem dX10_init_124 : decode cX10_init 124 = .ok (.iconst 4, 1) := by decide +kernel
theorem dX10_init_125 : decode cX10_init 125 = .ok (.newarray .int, 2) := by decide +kernel
theorem dX10_init_127 : decode cX10_init 127 = .ok (.putfield 53, 3) := by decide +kernel
theorem dX10_init_130 : decode cX10_init 130 = .ok (.aload_n 0, 1) := by decide +kernel
theorem dX10_init_131 : decode cX10_init 131 = .ok (.sipush 160, 3) := by decide +kernel
theorem dX10_init_134 : decode cX10_init 134 = .ok (.newarray .int, 2) := by decide +kernel
theorem dX10_init_136 : decode cX10_init 136 = .ok (.putfield 56, 3) := by decide +kernel
theorem dX10_init_139 : decode cX10_init 139 = .ok (.aload_n 0, 1) := by decide +kernel
theorem dX10_init_140 : decode cX10_init 140 = .ok (.bipush 41, 2) := by decide +kernel
theorem dX10_init_142 : decode cX10_init 142 = .ok (.newarray .int, 2) := by decide +kernel
theorem dX10_init_144 : decode cX10_init 144 = .ok (.dup, 1) := by decide +kernel
theorem dX10_init_145 : decode cX10_init 145 = .ok (.iconst 0, 1) := by decide +kernel
theorem dX10_init_146 : decode cX10_init 146 = .ok (.bipush 114, 2) := by decide +kernel
theorem dX10_init_148 : decode cX10_init 148 = .ok (.iastore, 1) := by decide +kernel
theorem dX10_init_149 : decode cX10_init 149 = .ok (.dup, 1) := by decide +kernel
theorem dX10_init_150 : decode cX10_init 150 = .ok (.iconst 1, 1) := by decide +kernel
theorem dX10_init_151 : decode cX10_init 151 = .ok (.bipush 101, 2) := by decide +kernel
theorem dX10_init_153 : decode cX10_init 153 = .ok (.iastore, 1) := by decide +kernel
theorem dX10_init_154 : decode cX10_init 154 = .ok (.dup, 1) := by decide +kernel
theorem dX10_init_155 : decode cX10_init 155 = .ok (.iconst 2, 1) := by decide +kernel
theorem dX10_init_156 : decode cX10_init 156 = .ok (.bipush 97, 2) := by decide +kernel
theorem dX10_init_158 : decode cX10_init 158 = .ok (.iastore, 1) := by decide +kernel
theorem dX10_init_159 : decode cX10_init 159 = .ok (.dup, 1) := by decide +kernel
theorem dX10_init_160 : decode cX10_init 160 = .ok (.iconst 3, 1) := by decide +kernel
theorem dX10_init_161 : decode cX10_init 161 = .ok (.bipush 99, 2) := by decide +kernel
theorem dX10_init_163 : decode cX10_init 163 = .ok (.iastore, 1) := by decide +kernel
theorem dX10_init_164 : decode cX10_init 164 = .ok (.dup, 1) := by decide +kernel
theorem dX10_init_165 : decode cX10_init 165 = .ok (.iconst 4, 1) := by decide +kernel
theorem dX10_init_166 : decode cX10_init 166 = .ok (.bipush 104, 2) := by decide +kernel
theorem dX10_init_168 : decode cX10_init 168 = .ok (.iastore, 1) := by decide +kernel
theorem dX10_init_169 : decode cX10_init 169 = .ok (.dup, 1) := by decide +kernel
theorem dX10_init_170 : decode cX10_init 170 = .ok (.iconst 5, 1) := by decide +kernel
theorem dX10_init_171 : decode cX10_init 171 = .ok (.bipush 32, 2) := by decide +kernel
theorem dX10_init_173 : decode cX10_init 173 = .ok (.iastore, 1) := by decide +kernel
theorem dX10_init_174 : decode cX10_init 174 = .ok (.dup, 1) := by decide +kernel
theorem dX10_init_175 : decode cX10_init 175 = .ok (.bipush 6, 2) := by decide +kernel
theorem dX10_init_177 : decode cX10_init 177 = .ok (.bipush 51, 2) := by decide +kernel
theorem dX10_init_179 : decode cX10_init 179 = .ok (.iastore, 1) := by decide +kernel
theorem dX10_init_180 : decode cX10_init 180 = .ok (.dup, 1) := by decide +kernel
theorem dX10_init_181 : decode cX10_init 181 = .ok (.bipush 7, 2) := by decide +kernel
theorem dX10_init_183 : decode cX10_init 183 = .ok (.bipush 32, 2) := by decide +kernel
theorem dX10_init_185 : decode cX10_init 185 = .ok (.iastore, 1) := by decide +kernel
theorem dX10_init_186 : decode cX10_init 186 = .ok (.dup, 1) := by decide +kernel
theorem dX10_init_187 : decode cX10_init 187 = .ok (.bipush 8, 2) := by decide +kernel
theorem dX10_init_189 : decode cX10_init 189 = .ok (.bipush 59, 2) := by decide +kernel
theorem dX10_init_191 : decode cX10_init 191 = .ok (.iastore, 1) := by decide +kernel
theorem dX10_init_192 : decode cX10_init 192 = .ok (.dup, 1) := by decide +kernel
theorem dX10_init_193 : decode cX10_init 193 = .ok (.bipush 9, 2) := by decide +kernel
theorem dX10_init_195 : decode cX10_init 195 = .ok (.bipush 32, 2) := by decide +kernel
theorem dX10_init_197 : decode cX10_init 197 = .ok (.iastore, 1) := by decide +kernel
theorem dX10_init_198 : decode cX10_init 198 = .ok (.dup, 1) := by decide +kernel
theorem dX10_init_199 : decode cX10_init 199 = .ok (.bipush 10, 2) := by decide +kernel
theorem dX10_init_201 : decode cX10_init 201 = .ok (.bipush 115, 2) := by decide +kernel
theorem dX10_init_203 : decode cX10_init 203 = .ok (.iastore, 1) := by decide +kernel
theorem dX10_init_204 : decode cX10_init 204 = .ok (.dup, 1) := by decide +kernel
theorem dX10_init_205 : decode cX10_init 205 = .ok (.bipush 11, 2) := by decide +kernel
theorem dX10_init_207 : decode cX10_init 207 = .ok (.bipush 101, 2) := by decide +kernel
theorem dX10_init_209 : decode cX10_init 209 = .ok (.iastore, 1) := by decide +kernel
theorem dX10_init_210 : decode cX10_init 210 = .ok (.dup, 1) := by decide +kernel
theorem dX10_init_211 : decode cX10_init 211 = .ok (.bipush 12, 2) := by decide +kernel
theorem dX10_init_213 : decode cX10_init 213 = .ok (.bipush 101, 2) := by decide +kernel
theorem dX10_init_215 : decode cX10_init 215 = .ok (.iastore, 1) := by decide +kernel
theorem dX10_init_216 : decode cX10_init 216 = .ok (.dup, 1) := by decide +kernel
theorem dX10_init_217 : decode cX10_init 217 = .ok (.bipush 13, 2) := by decide +kernel
theorem dX10_init_219 : decode cX10_init 219 = .ok (.bipush 115, 2) := by decide +kernel
theorem dX10_init_221 : decode cX10_init 221 = .ok (.iastore, 1) := by decide +kernel
theorem dX10_init_222 : decode cX10_init 222 = .ok (.dup, 1) := by decide +kernel
theorem dX10_init_223 : decode cX10_init 223 = .ok (.bipush 14, 2) := by decide +kernel
theorem dX10_init_225 : decode cX10_init 225 = .ok (.bipush 32, 2) := by decide +kernel
theorem dX10_init_227 : decode cX10_init 227 = .ok (.iastore, 1) := by decide +kernel
theorem dX10_init_228 : decode cX10_init 228 = .ok (.dup, 1) := by decide +kernel
theorem dX10_init_229 : decode cX10_init 229 = .ok (.bipush 15, 2) := by decide +kernel
theorem dX10_init_231 : decode cX10_init 231 = .ok (.bipush 108, 2) := by decide +kernel
theorem dX10_init_233 : decode cX10_init 233 = .ok (.iastore, 1) := by decide +kernel
theorem dX10_init_234 : decode cX10_init 234 = .ok (.dup, 1) := by decide +kernel
theorem dX10_init_235 : decode cX10_init 235 = .ok (.bipush 16, 2) := by decide +kernel
theorem dX10_init_237 : decode cX10_init 237 = .ok (.bipush 105, 2) := by decide +kernel
theorem dX10_init_239 : decode cX10_init 239 = .ok (.iastore, 1) := by decide +kernel
theorem dX10_init_240 : decode cX10_init 240 = .ok (.dup, 1) := by decide +kernel
theorem dX10_init_241 : decode cX10_init 241 = .ok (.bipush 17, 2) := by decide +kernel
theorem dX10_init_243 : decode cX10_init 243 = .ok (.bipush 116, 2) := by decide +kernel
theorem dX10_init_245 : decode cX10_init 245 = .ok (.iastore, 1) := by decide +kernel
theorem dX10_init_246 : decode cX10_init 246 = .ok (.dup, 1) := by decide +kernel
theorem dX10_init_247 : decode cX10_init 247 = .ok (.bipush 18, 2) := by decide +kernel
theorem dX10_init_249 : decode cX10_init 249 = .ok (.bipush 32, 2) := by decide +kernel
theorem dX10_init_251 : decode cX10_init 251 = .ok (.iastore, 1) := by decide +kernel
theorem dX10_init_252 : decode cX10_init 252 = .ok (.dup, 1) := by decide +kernel
theorem dX10_init_253 : decode cX10_init 253 = .ok (.bipush 19, 2) := by decide +kernel
theorem dX10_init_255 : decode cX10_init 255 = .ok (.bipush 111, 2) := by decide +kernel
theorem dX10_init_257 : decode cX10_init 257 = .ok (.iastore, 1) := by decide +kernel
theorem dX10_init_258 : decode cX10_init 258 = .ok (.dup, 1) := by decide +kernel
theorem dX10_init_259 : decode cX10_init 259 = .ok (.bipush 20, 2) := by decide +kernel
theorem dX10_init_261 : decode cX10_init 261 = .ok (.bipush 114, 2) := by decide +kernel
theorem dX10_init_263 : decode cX10_init 263 = .ok (.iastore, 1) := by decide +kernel
theorem dX10_init_264 : decode cX10_init 264 = .ok (.dup, 1) := by decide +kernel
theorem dX10_init_265 : decode cX10_init 265 = .ok (.bipush 21, 2) := by decide +kernel
theorem dX10_init_267 : decode cX10_init 267 = .ok (.bipush 32, 2) := by decide +kernel
theorem dX10_init_269 : decode cX10_init 269 = .ok (.iastore, 1) := by decide +kernel
theorem dX10_init_270 : decode cX10_init 270 = .ok (.dup, 1) := by decide +kernel
theorem dX10_init_271 : decode cX10_init 271 = .ok (.bipush 22, 2) := by decide +kernel
theorem dX10_init_273 : decode cX10_init 273 = .ok (.bipush 102, 2) := by decide +kernel
theorem dX10_init_275 : decode cX10_init 275 = .ok (.iastore, 1) := by decide +kernel
theorem dX10_init_276 : decode cX10_init 276 = .ok (.dup, 1) := by decide +kernel
theorem dX10_init_277 : decode cX10_init 277 = .ok (.bipush 23, 2) := by decide +kernel
theorem dX10_init_279 : decode cX10_init 279 = .ok (.bipush 97, 2) := by decide +kernel
theorem dX10_init_281 : decode cX10_init 281 = .ok (.iastore, 1) := by decide +kernel
theorem dX10_init_282 : decode cX10_init 282 = .ok (.dup, 1) := by decide +kernel
theorem dX10_init_283 : decode cX10_init 283 = .ok (.bipush 24, 2) := by decide +kernel
theorem dX10_init_285 : decode cX10_init 285 = .ok (.bipush 114, 2) := by decide +kernel
theorem dX10_init_287 : decode cX10_init 287 = .ok (.iastore, 1) := by decide +kernel
theorem dX10_init_288 : decode cX10_init 288 = .ok (.dup, 1) := by decide +kernel
theorem dX10_init_289 : decode cX10_init 289 = .ok (.bipush 25, 2) := by decide +kernel
theorem dX10_init_291 : decode cX10_init 291 = .ok (.bipush 32, 2) := by decide +kernel
theorem dX10_init_293 : decode cX10_init 293 = .ok (.iastore, 1) := by decide +kernel
theorem dX10_init_294 : decode cX10_init 294 = .ok (.dup, 1) := by decide +kernel
theorem dX10_init_295 : decode cX10_init 295 = .ok (.bipush 26, 2) := by decide +kernel
theorem dX10_init_297 : decode cX10_init 297 = .ok (.bipush 60, 2) := by decide +kernel
theorem dX10_init_299 : decode cX10_init 299 = .ok (.iastore, 1) := by decide +kernel
theorem dX10_init_300 : decode cX10_init 300 = .ok (.dup, 1) := by decide +kernel
theorem dX10_init_301 : decode cX10_init 301 = .ok (.bipush 27, 2) := by decide +kernel
theorem dX10_init_303 : decode cX10_init 303 = .ok (.bipush 32, 2) := by decide +kernel
theorem dX10_init_305 : decode cX10_init 305 = .ok (.iastore, 1) := by decide +kernel
theorem dX10_init_306 : decode cX10_init 306 = .ok (.dup, 1) := by decide +kernel
theorem dX10_init_307 : decode cX10_init 307 = .ok (.bipush 28, 2) := by decide +kernel
theorem dX10_init_309 : decode cX10_init 309 = .ok (.bipush 50, 2) := by decide +kernel
theorem dX10_init_311 : decode cX10_init 311 = .ok (.iastore, 1) := by decide +kernel
theorem dX10_init_312 : decode cX10_init 312 = .ok (.dup, 1) := by decide +kernel
theorem dX10_init_313 : decode cX10_init 313 = .ok (.bipush 29, 2) := by decide +kernel
theorem dX10_init_315 : decode cX10_init 315 = .ok (.bipush 32, 2) := by decide +kernel
theorem dX10_init_317 : decode cX10_init 317 = .ok (.iastore, 1) := by decide +kernel
theorem dX10_init_318 : decode cX10_init 318 = .ok (.dup, 1) := by decide +kernel
theorem dX10_init_319 : decode cX10_init 319 = .ok (.bipush 30, 2) := by decide +kernel
theorem dX10_init_321 : decode cX10_init 321 = .ok (.bipush 59, 2) := by decide +kernel
theorem dX10_init_323 : decode cX10_init 323 = .ok (.iastore, 1) := by decide +kernel
theorem dX10_init_324 : decode cX10_init 324 = .ok (.dup, 1) := by decide +kernel
theorem dX10_init_325 : decode cX10_init 325 = .ok (.bipush 31, 2) := by decide +kernel
theorem dX10_init_327 : decode cX10_init 327 = .ok (.bipush 32, 2) := by decide +kernel
theorem dX10_init_329 : decode cX10_init 329 = .ok (.iastore, 1) := by decide +kernel
theorem dX10_init_330 : decode cX10_init 330 = .ok (.dup, 1) := by decide +kernel
theorem dX10_init_331 : decode cX10_init 331 = .ok (.bipush 32, 2) := by decide +kernel
theorem dX10_init_333 : decode cX10_init 333 = .ok (.bipush 119, 2) := by decide +kernel
theorem dX10_init_335 : decode cX10_init 335 = .ok (.iastore, 1) := by decide +kernel
theorem dX10_init_336 : decode cX10_init 336 = .ok (.dup, 1) := by decide +kernel
theorem dX10_init_337 : decode cX10_init 337 = .ok (.bipush 33, 2) := by decide +kernel
theorem dX10_init_339 : decode cX10_init 339 = .ok (.bipush 111, 2) := by decide +kernel
theorem dX10_init_341 : decode cX10_init 341 = .ok (.iastore, 1) := by decide +kernel
theorem dX10_init_342 : decode cX10_init 342 = .ok (.dup, 1) := by decide +kernel
theorem dX10_init_343 : decode cX10_init 343 = .ok (.bipush 34, 2) := by decide +kernel
theorem dX10_init_345 : decode cX10_init 345 = .ok (.bipush 114, 2) := by decide +kernel
theorem dX10_init_347 : decode cX10_init 347 = .ok (.iastore, 1) := by decide +kernel
theorem dX10_init_348 : decode cX10_init 348 = .ok (.dup, 1) := by decide +kernel
theorem dX10_init_349 : decode cX10_init 349 = .ok (.bipush 35, 2) := by decide +kernel
theorem dX10_init_351 : decode cX10_init 351 = .ok (.bipush 116, 2) := by decide +kernel
theorem dX10_init_353 : decode cX10_init 353 = .ok (.iastore, 1) := by decide +kernel
theorem dX10_init_354 : decode cX10_init 354 = .ok (.dup, 1) := by decide +kernel
theorem dX10_init_355 : decode cX10_init 355 = .ok (.bipush 36, 2) := by decide +kernel
theorem dX10_init_357 : decode cX10_init 357 = .ok (.bipush 104, 2) := by decide +kernel
theorem dX10_init_359 : decode cX10_init 359 = .ok (.iastore, 1) := by decide +kernel
theorem dX10_init_360 : decode cX10_init 360 = .ok (.dup, 1) := by decide +kernel
theorem dX10_init_361 : decode cX10_init 361 = .ok (.bipush 37, 2) := by decide +kernel
theorem dX10_init_363 : decode cX10_init 363 = .ok (.bipush 32, 2) := by decide +kernel
theorem dX10_init_365 : decode cX10_init 365 = .ok (.iastore, 1) := by decide +kernel
theorem dX10_init_366 : decode cX10_init 366 = .ok (.dup, 1) := by decide +kernel
theorem dX10_init_367 : decode cX10_init 367 = .ok (.bipush 38, 2) := by decide +kernel
theorem dX10_init_369 : decode cX10_init 369 = .ok (.bipush 49, 2) := by decide +kernel
theorem dX10_init_371 : decode cX10_init 371 = .ok (.iastore, 1) := by decide +kernel
theorem dX10_init_372 : decode cX10_init 372 = .ok (.dup, 1) := by decide +kernel
theorem dX10_init_373 : decode cX10_init 373 = .ok (.bipush 39, 2) := by decide +kernel
theorem dX10_init_375 : decode cX10_init 375 = .ok (.bipush 32, 2) := by decide +kernel
theorem dX10_init_377 : decode cX10_init 377 = .ok (.iastore, 1) := by decide +kernel
theorem dX10_init_378 : decode cX10_init 378 = .ok (.dup, 1) := by decide +kernel
theorem dX10_init_379 : decode cX10_init 379 = .ok (.bipush 40, 2) := by decide +kernel
theorem dX10_init_381 : decode cX10_init 381 = .ok (.bipush 59, 2) := by decide +kernel
theorem dX10_init_383 : decode cX10_init 383 = .ok (.iastore, 1) := by decide +kernel
theorem dX10_init_384 : decode cX10_init 384 = .ok (.putfield 59, 3) := by decide +kernel
theorem dX10_init_387 : decode cX10_init 387 = .ok (.aload_n 0, 1) := by decide +kernel
theorem dX10_init_388 : decode cX10_init 388 = .ok (.bipush 96, 2) := by decide +kernel
theorem dX10_init_390 : decode cX10_init 390 = .ok (.newarray .int, 2) := by decide +kernel
theorem dX10_init_392 : decode cX10_init 392 = .ok (.dup, 1) := by decide +kernel
theorem dX10_init_393 : decode cX10_init 393 = .ok (.iconst 0, 1) := by decide +kernel
theorem dX10_init_394 : decode cX10_init 394 = .ok (.bipush 114, 2) := by decide +kernel
theorem dX10_init_396 : decode cX10_init 396 = .ok (.iastore, 1) := by decide +kernel
theorem dX10_init_397 : decode cX10_init 397 = .ok (.dup, 1) := by decide +kernel
theorem dX10_init_398 : decode cX10_init 398 = .ok (.iconst 1, 1) := by decide +kernel
theorem dX10_init_399 : decode cX10_init 399 = .ok (.bipush 101, 2) := by decide +kernel
theorem dX10_init_401 : decode cX10_init 401 = .ok (.iastore, 1) := by decide +kernel
theorem dX10_init_402 : decode cX10_init 402 = .ok (.dup, 1) := by decide +kernel
theorem dX10_init_403 : decode cX10_init 403 = .ok (.iconst 2, 1) := by decide +kernel
theorem dX10_init_404 : decode cX10_init 404 = .ok (.bipush 97, 2) := by decide +kernel
theorem dX10_init_406 : decode cX10_init 406 = .ok (.iastore, 1) := by decide +kernel
theorem dX10_init_407 : decode cX10_init 407 = .ok (.dup, 1) := by decide +kernel
theorem dX10_init_408 : decode cX10_init 408 = .ok (.iconst 3, 1) := by decide +kernel
theorem dX10_init_409 : decode cX10_init 409 = .ok (.bipush 99, 2) := by decide +kernel
theorem dX10_init_411 : decode cX10_init 411 = .ok (.iastore, 1) := by decide +kernel
theorem dX10_init_412 : decode cX10_init 412 = .ok (.dup, 1) := by decide +kernel
theorem dX10_init_413 : decode cX10_init 413 = .ok (.iconst 4, 1) := by decide +kernel
theorem dX10_init_414 : decode cX10_init 414 = .ok (.bipush 104, 2) := by decide +kernel
theorem dX10_init_416 : decode cX10_init 416 = .ok (.iastore, 1) := by decide +kernel
theorem dX10_init_417 : decode cX10_init 417 = .ok (.dup, 1) := by decide +kernel
theorem dX10_init_418 : decode cX10_init 418 = .ok (.iconst 5, 1) := by decide +kernel
theorem dX10_init_419 : decode cX10_init 419 = .ok (.bipush 32, 2) := by decide +kernel
theorem dX10_init_421 : decode cX10_init 421 = .ok (.iastore, 1) := by decide +kernel
theorem dX10_init_422 : decode cX10_init 422 = .ok (.dup, 1) := by decide +kernel
theorem dX10_init_423 : decode cX10_init 423 = .ok (.bipush 6, 2) := by decide +kernel
theorem dX10_init_425 : decode cX10_init 425 = .ok (.bipush 32, 2) := by decide +kernel
theorem dX10_init_427 : decode cX10_init 427 = .ok (.iastore, 1) := by decide +kernel
theorem dX10_init_428 : decode cX10_init 428 = .ok (.dup, 1) := by decide +kernel
theorem dX10_init_429 : decode cX10_init 429 = .ok (.bipush 7, 2) := by decide +kernel
theorem dX10_init_431 : decode cX10_init 431 = .ok (.bipush 32, 2) := by decide +kernel
theorem dX10_init_433 : decode cX10_init 433 = .ok (.iastore, 1) := by decide +kernel
theorem dX10_init_434 : decode cX10_init 434 = .ok (.dup, 1) := by decide +kernel
theorem dX10_init_435 : decode cX10_init 435 = .ok (.bipush 8, 2) := by decide +kernel
theorem dX10_init_437 : decode cX10_init 437 = .ok (.bipush 115, 2) := by decide +kernel
theorem dX10_init_439 : decode cX10_init 439 = .ok (.iastore, 1) := by decide +kernel
theorem dX10_init_440 : decode cX10_init 440 = .ok (.dup, 1) := by decide +kernel
theorem dX10_init_441 : decode cX10_init 441 = .ok (.bipush 9, 2) := by decide +kernel
theorem dX10_init_443 : decode cX10_init 443 = .ok (.bipush 101, 2) := by decide +kernel
theorem dX10_init_445 : decode cX10_init 445 = .ok (.iastore, 1) := by decide +kernel
theorem dX10_init_446 : decode cX10_init 446 = .ok (.dup, 1) := by decide +kernel
theorem dX10_init_447 : decode cX10_init 447 = .ok (.bipush 10, 2) := by decide +kernel
theorem dX10_init_449 : decode cX10_init 449 = .ok (.bipush 101, 2) := by decide +kernel
theorem dX10_init_451 : decode cX10_init 451 = .ok (.iastore, 1) := by decide +kernel
theorem dX10_init_452 : decode cX10_init 452 = .ok (.dup, 1) := by decide +kernel
theorem dX10_init_453 : decode cX10_init 453 = .ok (.bipush 11, 2) := by decide +kernel
theorem dX10_init_455 : decode cX10_init 455 = .ok (.bipush 115, 2) := by decide +kernel
theorem dX10_init_457 : decode cX10_init 457 = .ok (.iastore, 1) := by decide +kernel
theorem dX10_init_458 : decode cX10_init 458 = .ok (.dup, 1) := by decide +kernel
theorem dX10_init_459 : decode cX10_init 459 = .ok (.bipush 12, 2) := by decide +kernel
theorem dX10_init_461 : decode cX10_init 461 = .ok (.bipush 32, 2) := by decide +kernel
theorem dX10_init_463 : decode cX10_init 463 = .ok (.iastore, 1) := by decide +kernel
theorem dX10_init_464 : decode cX10_init 464 = .ok (.dup, 1) := by decide +kernel
theorem dX10_init_465 : decode cX10_init 465 = .ok (.bipush 13, 2) := by decide +kernel
theorem dX10_init_467 : decode cX10_init 467 = .ok (.bipush 32, 2) := by decide +kernel
theorem dX10_init_469 : decode cX10_init 469 = .ok (.iastore, 1) := by decide +kernel
theorem dX10_init_470 : decode cX10_init 470 = .ok (.dup, 1) := by decide +kernel
theorem dX10_init_471 : decode cX10_init 471 = .ok (.bipush 14, 2) := by decide +kernel
theorem dX10_init_473 : decode cX10_init 473 = .ok (.bipush 32, 2) := by decide +kernel
theorem dX10_init_475 : decode cX10_init 475 = .ok (.iastore, 1) := by decide +kernel
theorem dX10_init_476 : decode cX10_init 476 = .ok (.dup, 1) := by decide +kernel
theorem dX10_init_477 : decode cX10_init 477 = .ok (.bipush 15, 2) := by decide +kernel
theorem dX10_init_479 : decode cX10_init 479 = .ok (.bipush 32, 2) := by decide +kernel
theorem dX10_init_481 : decode cX10_init 481 = .ok (.iastore, 1) := by decide +kernel
theorem dX10_init_482 : decode cX10_init 482 = .ok (.dup, 1) := by decide +kernel
theorem dX10_init_483 : decode cX10_init 483 = .ok (.bipush 16, 2) := by decide +kernel
theorem dX10_init_485 : decode cX10_init 485 = .ok (.bipush 119, 2) := by decide +kernel
theorem dX10_init_487 : decode cX10_init 487 = .ok (.iastore, 1) := by decide +kernel
theorem dX10_init_488 : decode cX10_init 488 = .ok (.dup, 1) := by decide +kernel
theorem dX10_init_489 : decode cX10_init 489 = .ok (.bipush 17, 2) := by decide +kernel
theorem dX10_init_491 : decode cX10_init 491 = .ok (.bipush 111, 2) := by decide +kernel
theorem dX10_init_493 : decode cX10_init 493 = .ok (.iastore, 1) := by decide +kernel
theorem dX10_init_494 : decode cX10_init 494 = .ok (.dup, 1) := by decide +kernel
theorem dX10_init_495 : decode cX10_init 495 = .ok (.bipush 18, 2) := by decide +kernel
theorem dX10_init_497 : decode cX10_init 497 = .ok (.bipush 114, 2) := by decide +kernel
theorem dX10_init_499 : decode cX10_init 499 = .ok (.iastore, 1) := by decide +kernel
theorem dX10_init_500 : decode cX10_init 500 = .ok (.dup, 1) := by decide +kernel
theorem dX10_init_501 : decode cX10_init 501 = .ok (.bipush 19, 2) := by decide +kernel
theorem dX10_init_503 : decode cX10_init 503 = .ok (.bipush 116, 2) := by decide +kernel
theorem dX10_init_505 : decode cX10_init 505 = .ok (.iastore, 1) := by decide +kernel
theorem dX10_init_506 : decode cX10_init 506 = .ok (.dup, 1) := by decide +kernel
theorem dX10_init_507 : decode cX10_init 507 = .ok (.bipush 20, 2) := by decide +kernel
theorem dX10_init_509 : decode cX10_init 509 = .ok (.bipush 104, 2) := by decide +kernel
theorem dX10_init_511 : decode cX10_init 511 = .ok (.iastore, 1) := by decide +kernel
theorem dX10_init_512 : decode cX10_init 512 = .ok (.dup, 1) := by decide +kernel
theorem dX10_init_513 : decode cX10_init 513 = .ok (.bipush 21, 2) := by decide +kernel
theorem dX10_init_515 : decode cX10_init 515 = .ok (.bipush 32, 2) := by decide +kernel
theorem dX10_init_517 : decode cX10_init 517 = .ok (.iastore, 1) := by decide +kernel
theorem dX10_init_518 : decode cX10_init 518 = .ok (.dup, 1) := by decide +kernel
theorem dX10_init_519 : decode cX10_init 519 = .ok (.bipush 22, 2) := by decide +kernel
theorem dX10_init_521 : decode cX10_init 521 = .ok (.bipush 32, 2) := by decide +kernel
theorem dX10_init_523 : decode cX10_init 523 = .ok (.iastore, 1) := by decide +kernel
theorem dX10_init_524 : decode cX10_init 524 = .ok (.dup, 1) := by decide +kernel
theorem dX10_init_525 : decode cX10_init 525 = .ok (.bipush 23, 2) := by decide +kernel
theorem dX10_init_527 : decode cX10_init 527 = .ok (.bipush 32, 2) := by decide +kernel
theorem dX10_init_529 : decode cX10_init 529 = .ok (.iastore, 1) := by decide +kernel
theorem dX10_init_530 : decode cX10_init 530 = .ok (.dup, 1) := by decide +kernel
theorem dX10_init_531 : decode cX10_init 531 = .ok (.bipush 24, 2) := by decide +kernel
theorem dX10_init_533 : decode cX10_init 533 = .ok (.bipush 102, 2) := by decide +kernel
theorem dX10_init_535 : decode cX10_init 535 = .ok (.iastore, 1) := by decide +kernel
theorem dX10_init_536 : decode cX10_init 536 = .ok (.dup, 1) := by decide +kernel
theorem dX10_init_537 : decode cX10_init 537 = .ok (.bipush 25, 2) := by decide +kernel
theorem dX10_init_539 : decode cX10_init 539 = .ok (.bipush 97, 2) := by decide +kernel
theorem dX10_init_541 : decode cX10_init 541 = .ok (.iastore, 1) := by decide +kernel
theorem dX10_init_542 : decode cX10_init 542 = .ok (.dup, 1) := by decide +kernel
theorem dX10_init_543 : decode cX10_init 543 = .ok (.bipush 26, 2) := by decide +kernel
theorem dX10_init_545 : decode cX10_init 545 = .ok (.bipush 114, 2) := by decide +kernel
theorem dX10_init_547 : decode cX10_init 547 = .ok (.iastore, 1) := by decide +kernel
theorem dX10_init_548 : decode cX10_init 548 = .ok (.dup, 1) := by decide +kernel
theorem dX10_init_549 : decode cX10_init 549 = .ok (.bipush 27, 2) := by decide +kernel
theorem dX10_init_551 : decode cX10_init 551 = .ok (.bipush 32, 2) := by decide +kernel
theorem dX10_init_553 : decode cX10_init 553 = .ok (.iastore, 1) := by decide +kernel
theorem dX10_init_554 : decode cX10_init 554 = .ok (.dup, 1) := by decide +kernel
theorem dX10_init_555 : decode cX10_init 555 = .ok (.bipush 28, 2) := by decide +kernel
theorem dX10_init_557 : decode cX10_init 557 = .ok (.bipush 32, 2) := by decide +kernel
theorem dX10_init_559 : decode cX10_init 559 = .ok (.iastore, 1) := by decide +kernel
theorem dX10_init_560 : decode cX10_init 560 = .ok (.dup, 1) := by decide +kernel
theorem dX10_init_561 : decode cX10_init 561 = .ok (.bipush 29, 2) := by decide +kernel
theorem dX10_init_563 : decode cX10_init 563 = .ok (.bipush 32, 2) := by decide +kernel
theorem dX10_init_565 : decode cX10_init 565 = .ok (.iastore, 1) := by decide +kernel
theorem dX10_init_566 : decode cX10_init 566 = .ok (.dup, 1) := by decide +kernel
theorem dX10_init_567 : decode cX10_init 567 = .ok (.bipush 30, 2) := by decide +kernel
theorem dX10_init_569 : decode cX10_init 569 = .ok (.bipush 32, 2) := by decide +kernel
theorem dX10_init_571 : decode cX10_init 571 = .ok (.iastore, 1) := by decide +kernel
theorem dX10_init_572 : decode cX10_init 572 = .ok (.dup, 1) := by decide +kernel
theorem dX10_init_573 : decode cX10_init 573 = .ok (.bipush 31, 2) := by decide +kernel
theorem dX10_init_575 : decode cX10_init 575 = .ok (.bipush 32, 2) := by decide +kernel
theorem dX10_init_577 : decode cX10_init 577 = .ok (.iastore, 1) := by decide +kernel
theorem dX10_init_578 : decode cX10_init 578 = .ok (.dup, 1) := by decide +kernel
theorem dX10_init_579 : decode cX10_init 579 = .ok (.bipush 32, 2) := by decide +kernel
theorem dX10_init_581 : decode cX10_init 581 = .ok (.bipush 108, 2) := by decide +kernel
theorem dX10_init_583 : decode cX10_init 583 = .ok (.iastore, 1) := by decide +kernel
theorem dX10_init_584 : decode cX10_init 584 = .ok (.dup, 1) := by decide +kernel
theorem dX10_init_585 : decode cX10_init 585 = .ok (.bipush 33, 2) := by decide +kernel
theorem dX10_init_587 : decode cX10_init 587 = .ok (.bipush 105, 2) := by decide +kernel
theorem dX10_init_589 : decode cX10_init 589 = .ok (.iastore, 1) := by decide +kernel
theorem dX10_init_590 : decode cX10_init 590 = .ok (.dup, 1) := by decide +kernel
theorem dX10_init_591 : decode cX10_init 591 = .ok (.bipush 34, 2) := by decide +kernel
theorem dX10_init_593 : decode cX10_init 593 = .ok (.bipush 116, 2) := by decide +kernel
theorem dX10_init_595 : decode cX10_init 595 = .ok (.iastore, 1) := by decide +kernel
theorem dX10_init_596 : decode cX10_init 596 = .ok (.dup, 1) := by decide +kernel
theorem dX10_init_597 : decode cX10_init 597 = .ok (.bipush 35, 2) := by decide +kernel
theorem dX10_init_599 : decode cX10_init 599 = .ok (.bipush 32, 2) := by decide +kernel
theorem dX10_init_601 : decode cX10_init 601 = .ok (.iastore, 1) := by decide +kernel
theorem dX10_init_602 : decode cX10_init 602 = .ok (.dup, 1) := by decide +kernel
theorem dX10_init_603 : decode cX10_init 603 = .ok (.bipush 36, 2) := by decide +kernel
theorem dX10_init_605 : decode cX10_init 605 = .ok (.bipush 32, 2) := by decide +kernel
theorem dX10_init_607 : decode cX10_init 607 = .ok (.iastore, 1) := by decide +kernel
theorem dX10_init_608 : decode cX10_init 608 = .ok (.dup, 1) := by decide +kernel
theorem dX10_init_609 : decode cX10_init 609 = .ok (.bipush 37, 2) := by decide +kernel
theorem dX10_init_611 : decode cX10_init 611 = .ok (.bipush 32, 2) := by decide +kernel
theorem dX10_init_613 : decode cX10_init 613 = .ok (.iastore, 1) := by decide +kernel
theorem dX10_init_614 : decode cX10_init 614 = .ok (.dup, 1) := by decide +kernel
theorem dX10_init_615 : decode cX10_init 615 = .ok (.bipush 38, 2) := by decide +kernel
theorem dX10_init_617 : decode cX10_init 617 = .ok (.bipush 32, 2) := by decide +kernel
theorem dX10_init_619 : decode cX10_init 619 = .ok (.iastore, 1) := by decide +kernel
theorem dX10_init_620 : decode cX10_init 620 = .ok (.dup, 1) := by decide +kernel
theorem dX10_init_621 : decode cX10_init 621 = .ok (.bipush 39, 2) := by decide +kernel
theorem dX10_init_623 : decode cX10_init 623 = .ok (.bipush 32, 2) := by decide +kernel
theorem dX10_init_625 : decode cX10_init 625 = .ok (.iastore, 1) := by decide +kernel
theorem dX10_init_626 : decode cX10_init 626 = .ok (.dup, 1) := by decide +kernel
theorem dX10_init_627 : decode cX10_init 627 = .ok (.bipush 40, 2) := by decide +kernel
theorem dX10_init_629 : decode cX10_init 629 = .ok (.bipush 109, 2) := by decide +kernel
theorem dX10_init_631 : decode cX10_init 631 = .ok (.iastore, 1) := by decide +kernel
theorem dX10_init_632 : decode cX10_init 632 = .ok (.dup, 1) := by decide +kernel
theorem dX10_init_633 : decode cX10_init 633 = .ok (.bipush 41, 2) := by decide +kernel
theorem dX10_init_635 : decode cX10_init 635 = .ok (.bipush 111, 2) := by decide +kernel
theorem dX10_init_637 : decode cX10_init 637 = .ok (.iastore, 1) := by decide +kernel
theorem dX10_init_638 : decode cX10_init 638 = .ok (.dup, 1) := by decide +kernel
theorem dX10_init_639 : decode cX10_init 639 = .ok (.bipush 42, 2) := by decide +kernel
theorem dX10_init_641 : decode cX10_init 641 = .ok (.bipush 114, 2) := by decide +kernel
theorem dX10_init_643 : decode cX10_init 643 = .ok (.iastore, 1) := by decide +kernel
theorem dX10_init_644 : decode cX10_init 644 = .ok (.dup, 1) := by decide +kernel
theorem dX10_init_645 : decode cX10_init 645 = .ok (.bipush 43, 2) := by decide +kernel
theorem dX10_init_647 : decode cX10_init 647 = .ok (.bipush 101, 2) := by decide +kernel
theorem dX10_init_649 : decode cX10_init 649 = .ok (.iastore, 1) := by decide +kernel
theorem dX10_init_650 : decode cX10_init 650 = .ok (.dup, 1) := by decide +kernel
theorem dX10_init_651 : decode cX10_init 651 = .ok (.bipush 44, 2) := by decide +kernel
theorem dX10_init_653 : decode cX10_init 653 = .ok (.bipush 32, 2) := by decide +kernel
theorem dX10_init_655 : decode cX10_init 655 = .ok (.iastore, 1) := by decide +kernel
theorem dX10_init_656 : decode cX10_init 656 = .ok (.dup, 1) := by decide +kernel
theorem dX10_init_657 : decode cX10_init 657 = .ok (.bipush 45, 2) := by decide +kernel
theorem dX10_init_659 : decode cX10_init 659 = .ok (.bipush 32, 2) := by decide +kernel
theorem dX10_init_661 : decode cX10_init 661 = .ok (.iastore, 1) := by decide +kernel
theorem dX10_init_662 : decode cX10_init 662 = .ok (.dup, 1) := by decide +kernel
theorem dX10_init_663 : decode cX10_init 663 = .ok (.bipush 46, 2) := by decide +kernel
theorem dX10_init_665 : decode cX10_init 665 = .ok (.bipush 32, 2) := by decide +kernel
theorem dX10_init_667 : decode cX10_init 667 = .ok (.iastore, 1) := by decide +kernel
theorem dX10_init_668 : decode cX10_init 668 = .ok (.dup, 1) := by decide +kernel
theorem dX10_init_669 : decode cX10_init 669 = .ok (.bipush 47, 2) := by decide +kernel
theorem dX10_init_671 : decode cX10_init 671 = .ok (.bipush 32, 2) := by decide +kernel
theorem dX10_init_673 : decode cX10_init 673 = .ok (.iastore, 1) := by decide +kernel
theorem dX10_init_674 : decode cX10_init 674 = .ok (.dup, 1) := by decide +kernel
theorem dX10_init_675 : decode cX10_init 675 = .ok (.bipush 48, 2) := by decide +kernel
theorem dX10_init_677 : decode cX10_init 677 = .ok (.bipush 115, 2) := by decide +kernel
theorem dX10_init_679 : decode cX10_init 679 = .ok (.iastore, 1) := by decide +kernel
theorem dX10_init_680 : decode cX10_init 680 = .ok (.dup, 1) := by decide +kernel
theorem dX10_init_681 : decode cX10_init 681 = .ok (.bipush 49, 2) := by decide +kernel
theorem dX10_init_683 : decode cX10_init 683 = .ok (.bipush 101, 2) := by decide +kernel
theorem dX10_init_685 : decode cX10_init 685 = .ok (.iastore, 1) := by decide +kernel
theorem dX10_init_686 : decode cX10_init 686 = .ok (.dup, 1) := by decide +kernel
theorem dX10_init_687 : decode cX10_init 687 = .ok (.bipush 50, 2) := by decide +kernel
theorem dX10_init_689 : decode cX10_init 689 = .ok (.bipush 99, 2) := by decide +kernel
theorem dX10_init_691 : decode cX10_init 691 = .ok (.iastore, 1) := by decide +kernel
theorem dX10_init_692 : decode cX10_init 692 = .ok (.dup, 1) := by decide +kernel
theorem dX10_init_693 : decode cX10_init 693 = .ok (.bipush 51, 2) := by decide +kernel
theorem dX10_init_695 : decode cX10_init 695 = .ok (.bipush 111, 2) := by decide +kernel
theorem dX10_init_697 : decode cX10_init 697 = .ok (.iastore, 1) := by decide +kernel
theorem dX10_init_698 : decode cX10_init 698 = .ok (.dup, 1) := by decide +kernel
theorem dX10_init_699 : decode cX10_init 699 = .ok (.bipush 52, 2) := by decide +kernel
theorem dX10_init_701 : decode cX10_init 701 = .ok (.bipush 110, 2) := by decide +kernel
theorem dX10_init_703 : decode cX10_init 703 = .ok (.iastore, 1) := by decide +kernel
theorem dX10_init_704 : decode cX10_init 704 = .ok (.dup, 1) := by decide +kernel
theorem dX10_init_705 : decode cX10_init 705 = .ok (.bipush 53, 2) := by decide +kernel
theorem dX10_init_707 : decode cX10_init 707 = .ok (.bipush 100, 2) := by decide +kernel
theorem dX10_init_709 : decode cX10_init 709 = .ok (.iastore, 1) := by decide +kernel
theorem dX10_init_710 : decode cX10_init 710 = .ok (.dup, 1) := by decide +kernel
theorem dX10_init_711 : decode cX10_init 711 = .ok (.bipush 54, 2) := by decide +kernel
theorem dX10_init_713 : decode cX10_init 713 = .ok (.bipush 32, 2) := by decide +kernel
theorem dX10_init_715 : decode cX10_init 715 = .ok (.iastore, 1) := by decide +kernel
theorem dX10_init_716 : decode cX10_init 716 = .ok (.dup, 1) := by decide +kernel
theorem dX10_init_717 : decode cX10_init 717 = .ok (.bipush 55, 2) := by decide +kernel
theorem dX10_init_719 : decode cX10_init 719 = .ok (.bipush 32, 2) := by decide +kernel
theorem dX10_init_721 : decode cX10_init 721 = .ok (.iastore, 1) := by decide +kernel
theorem dX10_init_722 : decode cX10_init 722 = .ok (.dup, 1) := by decide +kernel
theorem dX10_init_723 : decode cX10_init 723 = .ok (.bipush 56, 2) := by decide +kernel
theorem dX10_init_725 : decode cX10_init 725 = .ok (.bipush 110, 2) := by decide +kernel
theorem dX10_init_727 : decode cX10_init 727 = .ok (.iastore, 1) := by decide +kernel
theorem dX10_init_728 : decode cX10_init 728 = .ok (.dup, 1) := by decide +kernel
theorem dX10_init_729 : decode cX10_init 729 = .ok (.bipush 57, 2) := by decide +kernel
theorem dX10_init_731 : decode cX10_init 731 = .ok (.bipush 117, 2) := by decide +kernel
theorem dX10_init_733 : decode cX10_init 733 = .ok (.iastore, 1) := by decide +kernel
theorem dX10_init_734 : decode cX10_init 734 = .ok (.dup, 1) := by decide +kernel
theorem dX10_init_735 : decode cX10_init 735 = .ok (.bipush 58, 2) := by decide +kernel
theorem dX10_init_737 : decode cX10_init 737 = .ok (.bipush 109, 2) := by decide +kernel
theorem dX10_init_739 : decode cX10_init 739 = .ok (.iastore, 1) := by decide +kernel
theorem dX10_init_740 : decode cX10_init 740 = .ok (.dup, 1) := by decide +kernel
theorem dX10_init_741 : decode cX10_init 741 = .ok (.bipush 59, 2) := by decide +kernel
theorem dX10_init_743 : decode cX10_init 743 = .ok (.bipush 98, 2) := by decide +kernel
theorem dX10_init_745 : decode cX10_init 745 = .ok (.iastore, 1) := by decide +kernel
theorem dX10_init_746 : decode cX10_init 746 = .ok (.dup, 1) := by decide +kernel
theorem dX10_init_747 : decode cX10_init 747 = .ok (.bipush 60, 2) := by decide +kernel
theorem dX10_init_749 : decode cX10_init 749 = .ok (.bipush 101, 2) := by decide +kernel
theorem dX10_init_751 : decode cX10_init 751 = .ok (.iastore, 1) := by decide +kernel
theorem dX10_init_752 : decode cX10_init 752 = .ok (.dup, 1) := by decide +kernel
theorem dX10_init_753 : decode cX10_init 753 = .ok (.bipush 61, 2) := by decide +kernel
theorem dX10_init_755 : decode cX10_init 755 = .ok (.bipush 114, 2) := by decide +kernel
theorem dX10_init_757 : decode cX10_init 757 = .ok (.iastore, 1) := by decide +kernel
theorem dX10_init_758 : decode cX10_init 758 = .ok (.dup, 1) := by decide +kernel
theorem dX10_init_759 : decode cX10_init 759 = .ok (.bipush 62, 2) := by decide +kernel
theorem dX10_init_761 : decode cX10_init 761 = .ok (.bipush 32, 2) := by decide +kernel
theorem dX10_init_763 : decode cX10_init 763 = .ok (.iastore, 1) := by decide +kernel
theorem dX10_init_764 : decode cX10_init 764 = .ok (.dup, 1) := by decide +kernel
theorem dX10_init_765 : decode cX10_init 765 = .ok (.bipush 63, 2) := by decide +kernel
theorem dX10_init_767 : decode cX10_init 767 = .ok (.bipush 32, 2) := by decide +kernel
theorem dX10_init_769 : decode cX10_init 769 = .ok (.iastore, 1) := by decide +kernel
theorem dX10_init_770 : decode cX10_init 770 = .ok (.dup, 1) := by decide +kernel
theorem dX10_init_771 : decode cX10_init 771 = .ok (.bipush 64, 2) := by decide +kernel
theorem dX10_init_773 : decode cX10_init 773 = .ok (.bipush 99, 2) := by decide +kernel
theorem dX10_init_775 : decode cX10_init 775 = .ok (.iastore, 1) := by decide +kernel
theorem dX10_init_776 : decode cX10_init 776 = .ok (.dup, 1) := by decide +kernel
theorem dX10_init_777 : decode cX10_init 777 = .ok (.bipush 65, 2) := by decide +kernel
theorem dX10_init_779 : decode cX10_init 779 = .ok (.bipush 101, 2) := by decide +kernel
theorem dX10_init_781 : decode cX10_init 781 = .ok (.iastore, 1) := by decide +kernel
theorem dX10_init_782 : decode cX10_init 782 = .ok (.dup, 1) := by decide +kernel
theorem dX10_init_783 : decode cX10_init 783 = .ok (.bipush 66, 2) := by decide +kernel
theorem dX10_init_785 : decode cX10_init 785 = .ok (.bipush 108, 2) := by decide +kernel
theorem dX10_init_787 : decode cX10_init 787 = .ok (.iastore, 1) := by decide +kernel
theorem dX10_init_788 : decode cX10_init 788 = .ok (.dup, 1) := by decide +kernel
theorem dX10_init_789 : decode cX10_init 789 = .ok (.bipush 67, 2) := by decide +kernel
theorem dX10_init_791 : decode cX10_init 791 = .ok (.bipush 108, 2) := by decide +kernel
theorem dX10_init_793 : decode cX10_init 793 = .ok (.iastore, 1) := by decide +kernel
theorem dX10_init_794 : decode cX10_init 794 = .ok (.dup, 1) := by decide +kernel
theorem dX10_init_795 : decode cX10_init 795 = .ok (.bipush 68, 2) := by decide +kernel
theorem dX10_init_797 : decode cX10_init 797 = .ok (.bipush 32, 2) := by decide +kernel
theorem dX10_init_799 : decode cX10_init 799 = .ok (.iastore, 1) := by decide +kernel
theorem dX10_init_800 : decode cX10_init 800 = .ok (.dup, 1) := by decide +kernel
theorem dX10_init_801 : decode cX10_init 801 = .ok (.bipush 69, 2) := by decide +kernel
theorem dX10_init_803 : decode cX10_init 803 = .ok (.bipush 32, 2) := by decide +kernel
theorem dX10_init_805 : decode cX10_init 805 = .ok (.iastore, 1) := by decide +kernel
theorem dX10_init_806 : decode cX10_init 806 = .ok (.dup, 1) := by decide +kernel
theorem dX10_init_807 : decode cX10_init 807 = .ok (.bipush 70, 2) := by decide +kernel
theorem dX10_init_809 : decode cX10_init 809 = .ok (.bipush 32, 2) := by decide +kernel
theorem dX10_init_811 : decode cX10_init 811 = .ok (.iastore, 1) := by decide +kernel
theorem dX10_init_812 : decode cX10_init 812 = .ok (.dup, 1) := by decide +kernel
theorem dX10_init_813 : decode cX10_init 813 = .ok (.bipush 71, 2) := by decide +kernel
theorem dX10_init_815 : decode cX10_init 815 = .ok (.bipush 32, 2) := by decide +kernel
theorem dX10_init_817 : decode cX10_init 817 = .ok (.iastore, 1) := by decide +kernel
theorem dX10_init_818 : decode cX10_init 818 = .ok (.dup, 1) := by decide +kernel
theorem dX10_init_819 : decode cX10_init 819 = .ok (.bipush 72, 2) := by decide +kernel
theorem dX10_init_821 : decode cX10_init 821 = .ok (.bipush 111, 2) := by decide +kernel
theorem dX10_init_823 : decode cX10_init 823 = .ok (.iastore, 1) := by decide +kernel
theorem dX10_init_824 : decode cX10_init 824 = .ok (.dup, 1) := by decide +kernel
theorem dX10_init_825 : decode cX10_init 825 = .ok (.bipush 73, 2) := by decide +kernel
theorem dX10_init_827 : decode cX10_init 827 = .ok (.bipush 114, 2) := by decide +kernel
theorem dX10_init_829 : decode cX10_init 829 = .ok (.iastore, 1) := by decide +kernel
theorem dX10_init_830 : decode cX10_init 830 = .ok (.dup, 1) := by decide +kernel
theorem dX10_init_831 : decode cX10_init 831 = .ok (.bipush 74, 2) := by decide +kernel
theorem dX10_init_833 : decode cX10_init 833 = .ok (.bipush 32, 2) := by decide +kernel
theorem dX10_init_835 : decode cX10_init 835 = .ok (.iastore, 1) := by decide +kernel
theorem dX10_init_836 : decode cX10_init 836 = .ok (.dup, 1) := by decide +kernel
theorem dX10_init_837 : decode cX10_init 837 = .ok (.bipush 75, 2) := by decide +kernel
theorem dX10_init_839 : decode cX10_init 839 = .ok (.bipush 32, 2) := by decide +kernel
theorem dX10_init_841 : decode cX10_init 841 = .ok (.iastore, 1) := by decide +kernel
theorem dX10_init_842 : decode cX10_init 842 = .ok (.dup, 1) := by decide +kernel
theorem dX10_init_843 : decode cX10_init 843 = .ok (.bipush 76, 2) := by decide +kernel
theorem dX10_init_845 : decode cX10_init 845 = .ok (.bipush 32, 2) := by decide +kernel
theorem dX10_init_847 : decode cX10_init 847 = .ok (.iastore, 1) := by decide +kernel
theorem dX10_init_848 : decode cX10_init 848 = .ok (.dup, 1) := by decide +kernel
theorem dX10_init_849 : decode cX10_init 849 = .ok (.bipush 77, 2) := by decide +kernel
theorem dX10_init_851 : decode cX10_init 851 = .ok (.bipush 32, 2) := by decide +kernel
theorem dX10_init_853 : decode cX10_init 853 = .ok (.iastore, 1) := by decide +kernel
theorem dX10_init_854 : decode cX10_init 854 = .ok (.dup, 1) := by decide +kernel
theorem dX10_init_855 : decode cX10_init 855 = .ok (.bipush 78, 2) := by decide +kernel
theorem dX10_init_857 : decode cX10_init 857 = .ok (.bipush 32, 2) := by decide +kernel
theorem dX10_init_859 : decode cX10_init 859 = .ok (.iastore, 1) := by decide +kernel
theorem dX10_init_860 : decode cX10_init 860 = .ok (.dup, 1) := by decide +kernel
theorem dX10_init_861 : decode cX10_init 861 = .ok (.bipush 79, 2) := by decide +kernel
theorem dX10_init_863 : decode cX10_init 863 = .ok (.bipush 32, 2) := by decide +kernel
theorem dX10_init_865 : decode cX10_init 865 = .ok (.iastore, 1) := by decide +kernel
theorem dX10_init_866 : decode cX10_init 866 = .ok (.dup, 1) := by decide +kernel
theorem dX10_init_867 : decode cX10_init 867 = .ok (.bipush 80, 2) := by decide +kernel
theorem dX10_init_869 : decode cX10_init 869 = .ok (.bipush 97, 2) := by decide +kernel
theorem dX10_init_871 : decode cX10_init 871 = .ok (.iastore, 1) := by decide +kernel
theorem dX10_init_872 : decode cX10_init 872 = .ok (.dup, 1) := by decide +kernel
theorem dX10_init_873 : decode cX10_init 873 = .ok (.bipush 81, 2) := by decide +kernel
theorem dX10_init_875 : decode cX10_init 875 = .ok (.bipush 110, 2) := by decide +kernel
theorem dX10_init_877 : decode cX10_init 877 = .ok (.iastore, 1) := by decide +kernel
theorem dX10_init_878 : decode cX10_init 878 = .ok (.dup, 1) := by decide +kernel
theorem dX10_init_879 : decode cX10_init 879 = .ok (.bipush 82, 2) := by decide +kernel
theorem dX10_init_881 : decode cX10_init 881 = .ok (.bipush 100, 2) := by decide +kernel
theorem dX10_init_883 : decode cX10_init 883 = .ok (.iastore, 1) := by decide +kernel
theorem dX10_init_884 : decode cX10_init 884 = .ok (.dup, 1) := by decide +kernel
theorem dX10_init_885 : decode cX10_init 885 = .ok (.bipush 83, 2) := by decide +kernel
theorem dX10_init_887 : decode cX10_init 887 = .ok (.bipush 32, 2) := by decide +kernel
theorem dX10_init_889 : decode cX10_init 889 = .ok (.iastore, 1) := by decide +kernel
theorem dX10_init_890 : decode cX10_init 890 = .ok (.dup, 1) := by decide +kernel
theorem dX10_init_891 : decode cX10_init 891 = .ok (.bipush 84, 2) := by decide +kernel
theorem dX10_init_893 : decode cX10_init 893 = .ok (.bipush 32, 2) := by decide +kernel
theorem dX10_init_895 : decode cX10_init 895 = .ok (.iastore, 1) := by decide +kernel
theorem dX10_init_896 : decode cX10_init 896 = .ok (.dup, 1) := by decide +kernel
theorem dX10_init_897 : decode cX10_init 897 = .ok (.bipush 85, 2) := by decide +kernel
theorem dX10_init_899 : decode cX10_init 899 = .ok (.bipush 32, 2) := by decide +kernel
theorem dX10_init_901 : decode cX10_init 901 = .ok (.iastore, 1) := by decide +kernel
theorem dX10_init_902 : decode cX10_init 902 = .ok (.dup, 1) := by decide +kernel
theorem dX10_init_903 : decode cX10_init 903 = .ok (.bipush 86, 2) := by decide +kernel
theorem dX10_init_905 : decode cX10_init 905 = .ok (.bipush 32, 2) := by decide +kernel
theorem dX10_init_907 : decode cX10_init 907 = .ok (.iastore, 1) := by decide +kernel
theorem dX10_init_908 : decode cX10_init 908 = .ok (.dup, 1) := by decide +kernel
theorem dX10_init_909 : decode cX10_init 909 = .ok (.bipush 87, 2) := by decide +kernel
theorem dX10_init_911 : decode cX10_init 911 = .ok (.bipush 32, 2) := by decide +kernel
theorem dX10_init_913 : decode cX10_init 913 = .ok (.iastore, 1) := by decide +kernel
theorem dX10_init_914 : decode cX10_init 914 = .ok (.dup, 1) := by decide +kernel
theorem dX10_init_915 : decode cX10_init 915 = .ok (.bipush 88, 2) := by decide +kernel
theorem dX10_init_917 : decode cX10_init 917 = .ok (.bipush 110, 2) := by decide +kernel
theorem dX10_init_919 : decode cX10_init 919 = .ok (.iastore, 1) := by decide +kernel
theorem dX10_init_920 : decode cX10_init 920 = .ok (.dup, 1) := by decide +kernel
theorem dX10_init_921 : decode cX10_init 921 = .ok (.bipush 89, 2) := by decide +kernel
theorem dX10_init_923 : decode cX10_init 923 = .ok (.bipush 111, 2) := by decide +kernel
theorem dX10_init_925 : decode cX10_init 925 = .ok (.iastore, 1) := by decide +kernel
theorem dX10_init_926 : decode cX10_init 926 = .ok (.dup, 1) := by decide +kernel
theorem dX10_init_927 : decode cX10_init 927 = .ok (.bipush 90, 2) := by decide +kernel
theorem dX10_init_929 : decode cX10_init 929 = .ok (.bipush 116, 2) := by decide +kernel
theorem dX10_init_931 : decode cX10_init 931 = .ok (.iastore, 1) := by decide +kernel
theorem dX10_init_932 : decode cX10_init 932 = .ok (.dup, 1) := by decide +kernel
theorem dX10_init_933 : decode cX10_init 933 = .ok (.bipush 91, 2) := by decide +kernel
theorem dX10_init_935 : decode cX10_init 935 = .ok (.bipush 32, 2) := by decide +kernel
theorem dX10_init_937 : decode cX10_init 937 = .ok (.iastore, 1) := by decide +kernel
theorem dX10_init_938 : decode cX10_init 938 = .ok (.dup, 1) := by decide +kernel
theorem dX10_init_939 : decode cX10_init 939 = .ok (.bipush 92, 2) := by decide +kernel
theorem dX10_init_941 : decode cX10_init 941 = .ok (.bipush 32, 2) := by decide +kernel
theorem dX10_init_943 : decode cX10_init 943 = .ok (.iastore, 1) := by decide +kernel
theorem dX10_init_944 : decode cX10_init 944 = .ok (.dup, 1) := by decide +kernel
theorem dX10_init_945 : decode cX10_init 945 = .ok (.bipush 93, 2) := by decide +kernel
theorem dX10_init_947 : decode cX10_init 947 = .ok (.bipush 32, 2) := by decide +kernel
theorem dX10_init_949 : decode cX10_init 949 = .ok (.iastore, 1) := by decide +kernel
theorem dX10_init_950 : decode cX10_init 950 = .ok (.dup, 1) := by decide +kernel
theorem dX10_init_951 : decode cX10_init 951 = .ok (.bipush 94, 2) := by decide +kernel
theorem dX10_init_953 : decode cX10_init 953 = .ok (.bipush 32, 2) := by decide +kernel
theorem dX10_init_955 : decode cX10_init 955 = .ok (.iastore, 1) := by decide +kernel
theorem dX10_init_956 : decode cX10_init 956 = .ok (.dup, 1) := by decide +kernel
theorem dX10_init_957 : decode cX10_init 957 = .ok (.bipush 95, 2) := by decide +kernel
theorem dX10_init_959 : decode cX10_init 959 = .ok (.bipush 32, 2) := by decide +kernel
theorem dX10_init_961 : decode cX10_init 961 = .ok (.iastore, 1) := by decide +kernel
theorem dX10_init_962 : decode cX10_init 962 = .ok (.putfield 62, 3) := by decide +kernel
theorem dX10_init_965 : decode cX10_init 965 = .ok (.aload_n 0, 1) := by decide +kernel
theorem dX10_init_966 : decode cX10_init 966 = .ok (.sipush 200, 3) := by decide +kernel
theorem dX10_init_969 : decode cX10_init 969 = .ok (.newarray .int, 2) := by decide +kernel
theorem dX10_init_971 : decode cX10_init 971 = .ok (.putfield 65, 3) := by decide +kernel
theorem dX10_init_974 : decode cX10_init 974 = .ok (.aload_n 0, 1) := by decide +kernel
theorem dX10_init_975 : decode cX10_init 975 = .ok (.sipush 200, 3) := by decide +kernel
theorem dX10_init_978 : decode cX10_init 978 = .ok (.newarray .int, 2) := by decide +kernel
theorem dX10_init_980 : decode cX10_init 980 = .ok (.putfield 68, 3) := by decide +kernel
theorem dX10_init_983 : decode cX10_init 983 = .ok (.aload_n 0, 1) := by decide +kernel
theorem dX10_init_984 : decode cX10_init 984 = .ok (.bipush 6, 2) := by decide +kernel
theorem dX10_init_986 : decode cX10_init 986 = .ok (.newarray .int, 2) := by decide +kernel
theorem dX10_init_988 : decode cX10_init 988 = .ok (.putfield 71, 3) := by decide +kernel
theorem dX10_init_991 : decode cX10_init 991 = .ok (.aload_n 0, 1) := by decide +kernel
theorem dX10_init_992 : decode cX10_init 992 = .ok (.bipush 120, 2) := by decide +kernel
theorem dX10_init_994 : decode cX10_init 994 = .ok (.newarray .long, 2) := by decide +kernel
theorem dX10_init_996 : decode cX10_init 996 = .ok (.putfield 74, 3) := by decide +kernel
theorem dX10_init_999 : decode cX10_init 999 = .ok (.aload_n 0, 1) := by decide +kernel
theorem dX10_init_1000 : decode cX10_init 1000 = .ok (.bipush 25, 2) := by decide +kernel
theorem dX10_init_1002 : decode cX10_init 1002 = .ok (.newarray .long, 2) := by decide +kernel
theorem dX10_init_1004 : decode cX10_init 1004 = .ok (.putfield 77, 3) := by decide +kernel
theorem dX10_init_1007 : decode cX10_init 1007 = .ok (.aload_n 0, 1) := by decide +kernel
theorem dX10_init_1008 : decode cX10_init 1008 = .ok (.iconst 5, 1) := by decide +kernel
theorem dX10_init_1009 : decode cX10_init 1009 = .ok (.newarray .int, 2) := by decide +kernel
theorem dX10_init_1011 : decode cX10_init 1011 = .ok (.putfield 80, 3) := by decide +kernel
theorem dX10_init_1014 : decode cX10_init 1014 = .ok (.iconst 0, 1) := by decide +kernel
theorem dX10_init_1015 : decode cX10_init 1015 = .ok (.istore_n 1, 1) := by decide +kernel
theorem dX10_init_1016 : decode cX10_init 1016 = .ok (.iload_n 1, 1) := by decide +kernel
theorem dX10_init_1017 : decode cX10_init 1017 = .ok (.bipush 41, 2) := by decide +kernel
theorem dX10_init_1019 : decode cX10_init 1019 = .ok (.if_icmp .ge 21, 3) := by decide +kernel
theorem dX10_init_1022 : decode cX10_init 1022 = .ok (.aload_n 0, 1) := by decide +kernel
theorem dX10_init_1023 : decode cX10_init 1023 = .ok (.getfield 32, 3) := by decide +kernel
theorem dX10_init_1026 : decode cX10_init 1026 = .ok (.iload_n 1, 1) := by decide +kernel
theorem dX10_init_1027 : decode cX10_init 1027 = .ok (.aload_n 0, 1) := by decide +kernel
theorem dX10_init_1028 : decode cX10_init 1028 = .ok (.getfield 59, 3) := by decide +kernel
theorem dX10_init_1031 : decode cX10_init 1031 = .ok (.iload_n 1, 1) := by decide +kernel
theorem dX10_init_1032 : decode cX10_init 1032 = .ok (.iaload, 1) := by decide +kernel
theorem dX10_init_1033 : decode cX10_init 1033 = .ok (.iastore, 1) := by decide +kernel
theorem dX10_init_1034 : decode cX10_init 1034 = .ok (.iinc 1 1, 3) := by decide +kernel
theorem dX10_init_1037 : decode cX10_init 1037 = .ok (.goto (-21), 3) := by decide +kernel
theorem dX10_init_1040 : decode cX10_init 1040 = .ok (.aload_n 0, 1) := by decide +kernel
theorem dX10_init_1041 : decode cX10_init 1041 = .ok (.bipush 41, 2) := by decide +kernel
theorem dX10_init_1043 : decode cX10_init 1043 = .ok (.putfield 83, 3) := by decide +kernel
theorem dX10_init_1046 : decode cX10_init 1046 = .ok (.aload_n 0, 1) := by decide +kernel
theorem dX10_init_1047 : decode cX10_init 1047 = .ok (.invokevirtual 87, 3) := by decide +kernel
theorem dX10_init_1050 : decode cX10_init 1050 = .ok (.pop, 1) := by decide +kernel
theorem dX10_init_1051 : decode cX10_init 1051 = .ok (.return_, 1) := by decide +kernel
theorem dX10_in_0 : decode cX10_in 0 = .ok (.iload_n 0, 1) := by decide +kernel
theorem dX10_in_1 : decode cX10_in 1 = .ok (.iload_n 1, 1) := by decide +kernel
theorem dX10_in_2 : decode cX10_in 2 = .ok (.if_icmp .lt 12, 3) := by decide +kernel
theorem dX10_in_5 : decode cX10_in 5 = .ok (.iload_n 0, 1) := by decide +kernel
theorem dX10_in_6 : decode cX10_in 6 = .ok (.iload_n 2, 1) := by decide +kernel
theorem dX10_in_7 : decode cX10_in 7 = .ok (.if_icmp .gt 7, 3) := by decide +kernel
theorem dX10_in_10 : decode cX10_in 10 = .ok (.iconst 1, 1) := by decide +kernel
theorem dX10_in_11 : decode cX10_in 11 = .ok (.goto 4, 3) := by decide +kernel
theorem dX10_in_14 : decode cX10_in 14 = .ok (.iconst 0, 1) := by decide +kernel
theorem dX10_in_15 : decode cX10_in 15 = .ok (.ireturn, 1) := by decide +kernel
theorem dX10_within_0 : decode cX10_within 0 = .ok (.iload_n 0, 1) := by decide +kernel
theorem dX10_within_1 : decode cX10_within 1 = .ok (.iload_n 1, 1) := by decide +kernel
theorem dX10_within_2 : decode cX10_within 2 = .ok (.if_icmp .ge 7, 3) := by decide +kernel
theorem dX10_within_5 : decode cX10_within 5 = .ok (.iload_n 1, 1) := by decide +kernel
theorem dX10_within_6 : decode cX10_within 6 = .ok (.goto 13, 3) := by decide +kernel
theorem dX10_within_9 : decode cX10_within 9 = .ok (.iload_n 0, 1) := by decide +kernel
theorem dX10_within_10 : decode cX10_within 10 = .ok (.iload_n 2, 1) := by decide +kernel
theorem dX10_within_11 : decode cX10_within 11 = .ok (.if_icmp .le 7, 3) := by decide +kernel
theorem dX10_within_14 : decode cX10_within 14 = .ok (.iload_n 2, 1) := by decide +kernel
theorem dX10_within_15 : decode cX10_within 15 = .ok (.goto 4, 3) := by decide +kernel
theorem dX10_within_18 : decode cX10_within 18 = .ok (.iload_n 0, 1) := by decide +kernel
theorem dX10_within_19 : decode cX10_within 19 = .ok (.ireturn, 1) := by decide +kernel
theorem dX10_isCell_0 : decode cX10_isCell 0 = .ok (.iload_n 0, 1) := by decide +kernel
theorem dX10_isCell_1 : decode cX10_isCell 1 = .ok (.iconst 0, 1) := by decide +kernel
theorem dX10_isCell_2 : decode cX10_isCell 2 = .ok (.bipush 35, 2) := by decide +kernel
theorem dX10_isCell_4 : decode cX10_isCell 4 = .ok (.invokestatic 91, 3) := by decide +kernel
theorem dX10_isCell_7 : decode cX10_isCell 7 = .ok (.ireturn, 1) := by decide +kernel
theorem dX10_isSecond_0 : decode cX10_isSecond 0 = .ok (.iload_n 0, 1) := by decide +kernel
theorem dX10_isSecond_1 : decode cX10_isSecond 1 = .ok (.iconst 0, 1) := by decide +kernel
theorem dX10_isSecond_2 : decode cX10_isSecond 2 = .ok (.bipush 23, 2) := by decide +kernel
theorem dX10_isSecond_4 : decode cX10_isSecond 4 = .ok (.invokestatic 91, 3) := by decide +kernel
theorem dX10_isSecond_7 : decode cX10_isSecond 7 = .ok (.ireturn, 1) := by decide +kernel
theorem dX10_areCells_0 : decode cX10_areCells 0 = .ok (.lload_n 0, 1) := by decide +kernel
theorem dX10_areCells_1 : decode cX10_areCells 1 = .ok (.lconst 0, 1) := by decide +kernel
theorem dX10_areCells_2 : decode cX10_areCells 2 = .ok (.lcmp, 1) := by decide +kernel
theorem dX10_areCells_3 : decode cX10_areCells 3 = .ok (.ifCond .lt 15, 3) := by decide +kernel
theorem dX10_areCells_6 : decode cX10_areCells 6 = .ok (.lload_n 0, 1) := by decide +kernel
theorem dX10_areCells_7 : decode cX10_areCells 7 = .ok (.ldc2_w 95, 3) := by decide +kernel
theorem dX10_areCells_10 : decode cX10_areCells 10 = .ok (.lcmp, 1) := by decide +kernel
theorem dX10_areCells_11 : decode cX10_areCells 11 = .ok (.ifCond .gt 7, 3) := by decide +kernel
theorem dX10_areCells_14 : decode cX10_areCells 14 = .ok (.iconst 1, 1) := by decide +kernel
theorem dX10_areCells_15 : decode cX10_areCells 15 = .ok (.goto 4, 3) := by decide +kernel
theorem dX10_areCells_18 : decode cX10_areCells 18 = .ok (.iconst 0, 1) := by decide +kernel
theorem dX10_areCells_19 : decode cX10_areCells 19 = .ok (.ireturn, 1) := by decide +kernel
theorem dX10_isGuard_0 : decode cX10_isGuard 0 = .ok (.iload_n 1, 1) := by decide +kernel
theorem dX10_isGuard_1 : decode cX10_isGuard 1 = .ok (.iconst 0, 1) := by decide +kernel
theorem dX10_isGuard_2 : decode cX10_isGuard 2 = .ok (.aload_n 0, 1) := by decide +kernel
theorem dX10_isGuard_3 : decode cX10_isGuard 3 = .ok (.getfield 97, 3) := by decide +kernel
theorem dX10_isGuard_6 : decode cX10_isGuard 6 = .ok (.iconst 1, 1) := by decide +kernel
theorem dX10_isGuard_7 : decode cX10_isGuard 7 = .ok (.isub, 1) := by decide +kernel
theorem dX10_isGuard_8 : decode cX10_isGuard 8 = .ok (.invokestatic 91, 3) := by decide +kernel
theorem dX10_isGuard_11 : decode cX10_isGuard 11 = .ok (.ireturn, 1) := by decide +kernel
theorem dX10_has_0 : decode cX10_has 0 = .ok (.lload_n 0, 1) := by decide +kernel
theorem dX10_has_1 : decode cX10_has 1 = .ok (.iload_n 2, 1) := by decide +kernel
theorem dX10_has_2 : decode cX10_has 2 = .ok (.lshr, 1) := by decide +kernel
theorem dX10_has_3 : decode cX10_has 3 = .ok (.lconst 1, 1) := by decide +kernel
theorem dX10_has_4 : decode cX10_has 4 = .ok (.land, 1) := by decide +kernel
theorem dX10_has_5 : decode cX10_has 5 = .ok (.lconst 1, 1) := by decide +kernel
theorem dX10_has_6 : decode cX10_has 6 = .ok (.lcmp, 1) := by decide +kernel
theorem dX10_has_7 : decode cX10_has 7 = .ok (.ifCond .ne 7, 3) := by decide +kernel
theorem dX10_has_10 : decode cX10_has 10 = .ok (.iconst 1, 1) := by decide +kernel
theorem dX10_has_11 : decode cX10_has 11 = .ok (.goto 4, 3) := by decide +kernel
theorem dX10_has_14 : decode cX10_has 14 = .ok (.iconst 0, 1) := by decide +kernel
theorem dX10_has_15 : decode cX10_has 15 = .ok (.ireturn, 1) := by decide +kernel
theorem dX10_bitsOf_0 : decode cX10_bitsOf 0 = .ok (.iconst 0, 1) := by decide +kernel
theorem dX10_bitsOf_1 : decode cX10_bitsOf 1 = .ok (.istore_n 2, 1) := by decide +kernel
theorem dX10_bitsOf_2 : decode cX10_bitsOf 2 = .ok (.iconst 0, 1) := by decide +kernel
theorem dX10_bitsOf_3 : decode cX10_bitsOf 3 = .ok (.istore_n 3, 1) := by decide +kernel
theorem dX10_bitsOf_4 : decode cX10_bitsOf 4 = .ok (.iload_n 3, 1) := by decide +kernel
theorem dX10_bitsOf_5 : decode cX10_bitsOf 5 = .ok (.bipush 36, 2) := by decide +kernel
theorem dX10_bitsOf_7 : decode cX10_bitsOf 7 = .ok (.if_icmp .ge 25, 3) := by decide +kernel
theorem dX10_bitsOf_10 : decode cX10_bitsOf 10 = .ok (.iload_n 2, 1) := by decide +kernel
theorem dX10_bitsOf_11 : decode cX10_bitsOf 11 = .ok (.lload_n 0, 1) := by decide +kernel
theorem dX10_bitsOf_12 : decode cX10_bitsOf 12 = .ok (.iload_n 3, 1) := by decide +kernel
theorem dX10_bitsOf_13 : decode cX10_bitsOf 13 = .ok (.invokestatic 100, 3) := by decide +kernel
theorem dX10_bitsOf_16 : decode cX10_bitsOf 16 = .ok (.ifCond .eq 7, 3) := by decide +kernel
theorem dX10_bitsOf_19 : decode cX10_bitsOf 19 = .ok (.iconst 1, 1) := by decide +kernel
theorem dX10_bitsOf_20 : decode cX10_bitsOf 20 = .ok (.goto 4, 3) := by decide +kernel
theorem dX10_bitsOf_23 : decode cX10_bitsOf 23 = .ok (.iconst 0, 1) := by decide +kernel
theorem dX10_bitsOf_24 : decode cX10_bitsOf 24 = .ok (.iadd, 1) := by decide +kernel
theorem dX10_bitsOf_25 : decode cX10_bitsOf 25 = .ok (.istore_n 2, 1) := by decide +kernel
theorem dX10_bitsOf_26 : decode cX10_bitsOf 26 = .ok (.iinc 3 1, 3) := by decide +kernel
theorem dX10_bitsOf_29 : decode cX10_bitsOf 29 = .ok (.goto (-25), 3) := by decide +kernel
theorem dX10_bitsOf_32 : decode cX10_bitsOf 32 = .ok (.iload_n 2, 1) := by decide +kernel
theorem dX10_bitsOf_33 : decode cX10_bitsOf 33 = .ok (.ireturn, 1) := by decide +kernel
theorem dX10_lay_0 : decode cX10_lay 0 = .ok (.iload_n 1, 1) := by decide +kernel
theorem dX10_lay_1 : decode cX10_lay 1 = .ok (.iconst 0, 1) := by decide +kernel
theorem dX10_lay_2 : decode cX10_lay 2 = .ok (.iconst 2, 1) := by decide +kernel
theorem dX10_lay_3 : decode cX10_lay 3 = .ok (.invokestatic 91, 3) := by decide +kernel
theorem dX10_lay_6 : decode cX10_lay 6 = .ok (.ifCond .eq 10, 3) := by decide +kernel
theorem dX10_lay_9 : decode cX10_lay 9 = .ok (.lload_n 2, 1) := by decide +kernel
theorem dX10_lay_10 : decode cX10_lay 10 = .ok (.invokestatic 104, 3) := by decide +kernel
theorem dX10_lay_13 : decode cX10_lay 13 = .ok (.ifCond .ne 7, 3) := by decide +kernel
theorem dX10_lay_16 : decode cX10_lay 16 = .ok (.ldc2_w 108, 3) := by decide +kernel
theorem dX10_lay_19 : decode cX10_lay 19 = .ok (.lreturn, 1) := by decide +kernel
theorem dX10_lay_20 : decode cX10_lay 20 = .ok (.aload_n 0, 1) := by decide +kernel
theorem dX10_lay_21 : decode cX10_lay 21 = .ok (.getfield 7, 3) := by decide +kernel
theorem dX10_lay_24 : decode cX10_lay 24 = .ok (.iload_n 1, 1) := by decide +kernel
theorem dX10_lay_25 : decode cX10_lay 25 = .ok (.laload, 1) := by decide +kernel
theorem dX10_lay_26 : decode cX10_lay 26 = .ok (.lstore 4, 2) := by decide +kernel
theorem dX10_lay_28 : decode cX10_lay 28 = .ok (.aload_n 0, 1) := by decide +kernel
theorem dX10_lay_29 : decode cX10_lay 29 = .ok (.getfield 7, 3) := by decide +kernel
theorem dX10_lay_32 : decode cX10_lay 32 = .ok (.iload_n 1, 1) := by decide +kernel
theorem dX10_lay_33 : decode cX10_lay 33 = .ok (.lload_n 2, 1) := by decide +kernel
theorem dX10_lay_34 : decode cX10_lay 34 = .ok (.lastore, 1) := by decide +kernel
theorem dX10_lay_35 : decode cX10_lay 35 = .ok (.lload 4, 2) := by decide +kernel
theorem dX10_lay_37 : decode cX10_lay 37 = .ok (.lreturn, 1) := by decide +kernel
theorem dX10_laid_0 : decode cX10_laid 0 = .ok (.iload_n 1, 1) := by decide +kernel
theorem dX10_laid_1 : decode cX10_laid 1 = .ok (.iconst 0, 1) := by decide +kernel
theorem dX10_laid_2 : decode cX10_laid 2 = .ok (.iconst 2, 1) := by decide +kernel
theorem dX10_laid_3 : decode cX10_laid 3 = .ok (.invokestatic 91, 3) := by decide +kernel
theorem dX10_laid_6 : decode cX10_laid 6 = .ok (.ifCond .eq 12, 3) := by decide +kernel
theorem dX10_laid_9 : decode cX10_laid 9 = .ok (.aload_n 0, 1) := by decide +kernel
theorem dX10_laid_10 : decode cX10_laid 10 = .ok (.getfield 7, 3) := by decide +kernel
theorem dX10_laid_13 : decode cX10_laid 13 = .ok (.iload_n 1, 1) := by decide +kernel
theorem dX10_laid_14 : decode cX10_laid 14 = .ok (.laload, 1) := by decide +kernel
theorem dX10_laid_15 : decode cX10_laid 15 = .ok (.goto 6, 3) := by decide +kernel
theorem dX10_laid_18 : decode cX10_laid 18 = .ok (.ldc2_w 108, 3) := by decide +kernel
theorem dX10_laid_21 : decode cX10_laid 21 = .ok (.lreturn, 1) := by decide +kernel
theorem dX10_put_0 : decode cX10_put 0 = .ok (.iload_n 1, 1) := by decide +kernel
theorem dX10_put_1 : decode cX10_put 1 = .ok (.invokestatic 110, 3) := by decide +kernel
theorem dX10_put_4 : decode cX10_put 4 = .ok (.ifCond .ne 6, 3) := by decide +kernel
theorem dX10_put_7 : decode cX10_put 7 = .ok (.bipush (-5), 2) := by decide +kernel
theorem dX10_put_9 : decode cX10_put 9 = .ok (.ireturn, 1) := by decide +kernel
theorem dX10_put_10 : decode cX10_put 10 = .ok (.iload_n 2, 1) := by decide +kernel
theorem dX10_put_11 : decode cX10_put 11 = .ok (.iconst 0, 1) := by decide +kernel
theorem dX10_put_12 : decode cX10_put 12 = .ok (.iconst 2, 1) := by decide +kernel
theorem dX10_put_13 : decode cX10_put 13 = .ok (.invokestatic 91, 3) := by decide +kernel
theorem dX10_put_16 : decode cX10_put 16 = .ok (.ifCond .eq 12, 3) := by decide +kernel
theorem dX10_put_19 : decode cX10_put 19 = .ok (.iload_n 3, 1) := by decide +kernel
theorem dX10_put_20 : decode cX10_put 20 = .ok (.iconst 0, 1) := by decide +kernel
theorem dX10_put_21 : decode cX10_put 21 = .ok (.iconst 1, 1) := by decide +kernel
theorem dX10_put_22 : decode cX10_put 22 = .ok (.invokestatic 91, 3) := by decide +kernel
theorem dX10_put_25 : decode cX10_put 25 = .ok (.ifCond .ne 6, 3) := by decide +kernel
theorem dX10_put_28 : decode cX10_put 28 = .ok (.bipush (-7), 2) := by decide +kernel
theorem dX10_put_30 : decode cX10_put 30 = .ok (.ireturn, 1) := by decide +kernel
theorem dX10_put_31 : decode cX10_put 31 = .ok (.aload_n 0, 1) := by decide +kernel
theorem dX10_put_32 : decode cX10_put 32 = .ok (.getfield 7, 3) := by decide +kernel
theorem dX10_put_35 : decode cX10_put 35 = .ok (.iload_n 2, 1) := by decide +kernel
theorem dX10_put_36 : decode cX10_put 36 = .ok (.laload, 1) := by decide +kernel
theorem dX10_put_37 : decode cX10_put 37 = .ok (.iload_n 1, 1) := by decide +kernel
theorem dX10_put_38 : decode cX10_put 38 = .ok (.invokestatic 100, 3) := by decide +kernel
theorem dX10_put_41 : decode cX10_put 41 = .ok (.ifCond .eq 7, 3) := by decide +kernel
theorem dX10_put_44 : decode cX10_put 44 = .ok (.iconst 1, 1) := by decide +kernel
theorem dX10_put_45 : decode cX10_put 45 = .ok (.goto 4, 3) := by decide +kernel
theorem dX10_put_48 : decode cX10_put 48 = .ok (.iconst 0, 1) := by decide +kernel
theorem dX10_put_49 : decode cX10_put 49 = .ok (.istore 4, 2) := by decide +kernel
theorem dX10_put_51 : decode cX10_put 51 = .ok (.aload_n 0, 1) := by decide +kernel
theorem dX10_put_52 : decode cX10_put 52 = .ok (.getfield 7, 3) := by decide +kernel
theorem dX10_put_55 : decode cX10_put 55 = .ok (.iload_n 2, 1) := by decide +kernel
theorem dX10_put_56 : decode cX10_put 56 = .ok (.iload_n 3, 1) := by decide +kernel
theorem dX10_put_57 : decode cX10_put 57 = .ok (.iconst 1, 1) := by decide +kernel
theorem dX10_put_58 : decode cX10_put 58 = .ok (.if_icmp .ne 16, 3) := by decide +kernel
theorem dX10_put_61 : decode cX10_put 61 = .ok (.aload_n 0, 1) := by decide +kernel
theorem dX10_put_62 : decode cX10_put 62 = .ok (.getfield 7, 3) := by decide +kernel
theorem dX10_put_65 : decode cX10_put 65 = .ok (.iload_n 2, 1) := by decide +kernel
theorem dX10_put_66 : decode cX10_put 66 = .ok (.laload, 1) := by decide +kernel
theorem dX10_put_67 : decode cX10_put 67 = .ok (.lconst 1, 1) := by decide +kernel
theorem dX10_put_68 : decode cX10_put 68 = .ok (.iload_n 1, 1) := by decide +kernel
theorem dX10_put_69 : decode cX10_put 69 = .ok (.lshl, 1) := by decide +kernel
theorem dX10_put_70 : decode cX10_put 70 = .ok (.lor, 1) := by decide +kernel
theorem dX10_put_71 : decode cX10_put 71 = .ok (.goto 17, 3) := by decide +kernel
theorem dX10_put_74 : decode cX10_put 74 = .ok (.aload_n 0, 1) := by decide +kernel
theorem dX10_put_75 : decode cX10_put 75 = .ok (.getfield 7, 3) := by decide +kernel
theorem dX10_put_78 : decode cX10_put 78 = .ok (.iload_n 2, 1) := by decide +kernel
theorem dX10_put_79 : decode cX10_put 79 = .ok (.laload, 1) := by decide +kernel
theorem dX10_put_80 : decode cX10_put 80 = .ok (.lconst 1, 1) := by decide +kernel
theorem dX10_put_81 : decode cX10_put 81 = .ok (.iload_n 1, 1) := by decide +kernel
theorem dX10_put_82 : decode cX10_put 82 = .ok (.lshl, 1) := by decide +kernel
theorem dX10_put_83 : decode cX10_put 83 = .ok (.ldc2_w 114, 3) := by decide +kernel
theorem dX10_put_86 : decode cX10_put 86 = .ok (.lxor, 1) := by decide +kernel
theorem dX10_put_87 : decode cX10_put 87 = .ok (.land, 1) := by decide +kernel
theorem dX10_put_88 : decode cX10_put 88 = .ok (.lastore, 1) := by decide +kernel
theorem dX10_put_89 : decode cX10_put 89 = .ok (.iload 4, 2) := by decide +kernel
theorem dX10_put_91 : decode cX10_put 91 = .ok (.ireturn, 1) := by decide +kernel
theorem dX10_count_0 : decode cX10_count 0 = .ok (.iload_n 1, 1) := by decide +kernel
theorem dX10_count_1 : decode cX10_count 1 = .ok (.tableswitch 75 0 6 #[43, 48, 48, 48, 60, 65, 70], 43) := by decide +kernel
theorem dX10_count_44 : decode cX10_count 44 = .ok (.aload_n 0, 1) := by decide +kernel
theorem dX10_count_45 : decode cX10_count 45 = .ok (.getfield 97, 3) := by decide +kernel
theorem dX10_count_48 : decode cX10_count 48 = .ok (.ireturn, 1) := by decide +kernel
theorem dX10_count_49 : decode cX10_count 49 = .ok (.aload_n 0, 1) := by decide +kernel
theorem dX10_count_50 : decode cX10_count 50 = .ok (.getfield 7, 3) := by decide +kernel
theorem dX10_count_53 : decode cX10_count 53 = .ok (.iload_n 1, 1) := by decide +kernel
theorem dX10_count_54 : decode cX10_count 54 = .ok (.iconst 1, 1) := by decide +kernel
theorem dX10_count_55 : decode cX10_count 55 = .ok (.isub, 1) := by decide +kernel
theorem dX10_count_56 : decode cX10_count 56 = .ok (.laload, 1) := by decide +kernel
theorem dX10_count_57 : decode cX10_count 57 = .ok (.invokestatic 116, 3) := by decide +kernel
theorem dX10_count_60 : decode cX10_count 60 = .ok (.ireturn, 1) := by decide +kernel
theorem dX10_count_61 : decode cX10_count 61 = .ok (.aload_n 0, 1) := by decide +kernel
theorem dX10_count_62 : decode cX10_count 62 = .ok (.getfield 120, 3) := by decide +kernel
theorem dX10_count_65 : decode cX10_count 65 = .ok (.ireturn, 1) := by decide +kernel
theorem dX10_count_66 : decode cX10_count 66 = .ok (.aload_n 0, 1) := by decide +kernel
theorem dX10_count_67 : decode cX10_count 67 = .ok (.getfield 123, 3) := by decide +kernel
theorem dX10_count_70 : decode cX10_count 70 = .ok (.ireturn, 1) := by decide +kernel
theorem dX10_count_71 : decode cX10_count 71 = .ok (.aload_n 0, 1) := by decide +kernel
theorem dX10_count_72 : decode cX10_count 72 = .ok (.getfield 83, 3) := by decide +kernel
theorem dX10_count_75 : decode cX10_count 75 = .ok (.ireturn, 1) := by decide +kernel
theorem dX10_count_76 : decode cX10_count 76 = .ok (.bipush (-2), 2) := by decide +kernel
theorem dX10_count_78 : decode cX10_count 78 = .ok (.ireturn, 1) := by decide +kernel
theorem dX10_isByte_0 : decode cX10_isByte 0 = .ok (.iload_n 0, 1) := by decide +kernel
theorem dX10_isByte_1 : decode cX10_isByte 1 = .ok (.iconst 0, 1) := by decide +kernel
theorem dX10_isByte_2 : decode cX10_isByte 2 = .ok (.sipush 255, 3) := by decide +kernel
theorem dX10_isByte_5 : decode cX10_isByte 5 = .ok (.invokestatic 91, 3) := by decide +kernel
theorem dX10_isByte_8 : decode cX10_isByte 8 = .ok (.ireturn, 1) := by decide +kernel
theorem dX10_feed_0 : decode cX10_feed 0 = .ok (.iload_n 1, 1) := by decide +kernel
theorem dX10_feed_1 : decode cX10_feed 1 = .ok (.iconst 1, 1) := by decide +kernel
theorem dX10_feed_2 : decode cX10_feed 2 = .ok (.iconst 5, 1) := by decide +kernel
theorem dX10_feed_3 : decode cX10_feed 3 = .ok (.invokestatic 91, 3) := by decide +kernel
theorem dX10_feed_6 : decode cX10_feed 6 = .ok (.ifCond .eq 41, 3) := by decide +kernel
theorem dX10_feed_9 : decode cX10_feed 9 = .ok (.iload_n 2, 1) := by decide +kernel
theorem dX10_feed_10 : decode cX10_feed 10 = .ok (.invokestatic 126, 3) := by decide +kernel
theorem dX10_feed_13 : decode cX10_feed 13 = .ok (.ifCond .eq 34, 3) := by decide +kernel
theorem dX10_feed_16 : decode cX10_feed 16 = .ok (.iload_n 3, 1) := by decide +kernel
theorem dX10_feed_17 : decode cX10_feed 17 = .ok (.invokestatic 126, 3) := by decide +kernel
theorem dX10_feed_20 : decode cX10_feed 20 = .ok (.ifCond .eq 27, 3) := by decide +kernel
theorem dX10_feed_23 : decode cX10_feed 23 = .ok (.iload 4, 2) := by decide +kernel
theorem dX10_feed_25 : decode cX10_feed 25 = .ok (.invokestatic 126, 3) := by decide +kernel
theorem dX10_feed_28 : decode cX10_feed 28 = .ok (.ifCond .eq 19, 3) := by decide +kernel
theorem dX10_feed_31 : decode cX10_feed 31 = .ok (.iload 5, 2) := by decide +kernel
theorem dX10_feed_33 : decode cX10_feed 33 = .ok (.invokestatic 126, 3) := by decide +kernel
theorem dX10_feed_36 : decode cX10_feed 36 = .ok (.ifCond .eq 11, 3) := by decide +kernel
theorem dX10_feed_39 : decode cX10_feed 39 = .ok (.iload 6, 2) := by decide +kernel
theorem dX10_feed_41 : decode cX10_feed 41 = .ok (.invokestatic 126, 3) := by decide +kernel
theorem dX10_feed_44 : decode cX10_feed 44 = .ok (.ifCond .ne 6, 3) := by decide +kernel
theorem dX10_feed_47 : decode cX10_feed 47 = .ok (.bipush (-2), 2) := by decide +kernel
theorem dX10_feed_49 : decode cX10_feed 49 = .ok (.ireturn, 1) := by decide +kernel
theorem dX10_feed_50 : decode cX10_feed 50 = .ok (.aload_n 0, 1) := by decide +kernel
theorem dX10_feed_51 : decode cX10_feed 51 = .ok (.getfield 83, 3) := by decide +kernel
theorem dX10_feed_54 : decode cX10_feed 54 = .ok (.iload_n 1, 1) := by decide +kernel
theorem dX10_feed_55 : decode cX10_feed 55 = .ok (.iadd, 1) := by decide +kernel
theorem dX10_feed_56 : decode cX10_feed 56 = .ok (.sipush 160, 3) := by decide +kernel
theorem dX10_feed_59 : decode cX10_feed 59 = .ok (.if_icmp .le 6, 3) := by decide +kernel
theorem dX10_feed_62 : decode cX10_feed 62 = .ok (.bipush (-4), 2) := by decide +kernel
theorem dX10_feed_64 : decode cX10_feed 64 = .ok (.ireturn, 1) := by decide +kernel
theorem dX10_feed_65 : decode cX10_feed 65 = .ok (.iconst 0, 1) := by decide +kernel
theorem dX10_feed_66 : decode cX10_feed 66 = .ok (.istore 7, 2) := by decide +kernel
theorem dX10_feed_68 : decode cX10_feed 68 = .ok (.iload 7, 2) := by decide +kernel
theorem dX10_feed_70 : decode cX10_feed 70 = .ok (.iload_n 1, 1) := by decide +kernel
theorem dX10_feed_71 : decode cX10_feed 71 = .ok (.if_icmp .ge 71, 3) := by decide +kernel
theorem dX10_feed_74 : decode cX10_feed 74 = .ok (.aload_n 0, 1) := by decide +kernel
theorem dX10_feed_75 : decode cX10_feed 75 = .ok (.getfield 32, 3) := by decide +kernel
theorem dX10_feed_78 : decode cX10_feed 78 = .ok (.aload_n 0, 1) := by decide +kernel
theorem dX10_feed_79 : decode cX10_feed 79 = .ok (.getfield 83, 3) := by decide +kernel
theorem dX10_feed_82 : decode cX10_feed 82 = .ok (.iload 7, 2) := by decide +kernel
theorem dX10_feed_84 : decode cX10_feed 84 = .ok (.ifCond .ne 7, 3) := by decide +kernel
theorem dX10_feed_87 : decode cX10_feed 87 = .ok (.iload_n 2, 1) := by decide +kernel
theorem dX10_feed_88 : decode cX10_feed 88 = .ok (.goto 37, 3) := by decide +kernel
theorem dX10_feed_91 : decode cX10_feed 91 = .ok (.iload 7, 2) := by decide +kernel
theorem dX10_feed_93 : decode cX10_feed 93 = .ok (.iconst 1, 1) := by decide +kernel
theorem dX10_feed_94 : decode cX10_feed 94 = .ok (.if_icmp .ne 7, 3) := by decide +kernel
theorem dX10_feed_97 : decode cX10_feed 97 = .ok (.iload_n 3, 1) := by decide +kernel
theorem dX10_feed_98 : decode cX10_feed 98 = .ok (.goto 27, 3) := by decide +kernel
theorem dX10_feed_101 : decode cX10_feed 101 = .ok (.iload 7, 2) := by decide +kernel
theorem dX10_feed_103 : decode cX10_feed 103 = .ok (.iconst 2, 1) := by decide +kernel
theorem dX10_feed_104 : decode cX10_feed 104 = .ok (.if_icmp .ne 8, 3) := by decide +kernel
theorem dX10_feed_107 : decode cX10_feed 107 = .ok (.iload 4, 2) := by decide +kernel
theorem dX10_feed_109 : decode cX10_feed 109 = .ok (.goto 16, 3) := by decide +kernel
theorem dX10_feed_112 : decode cX10_feed 112 = .ok (.iload 7, 2) := by decide +kernel
theorem dX10_feed_114 : decode cX10_feed 114 = .ok (.iconst 3, 1) := by decide +kernel
theorem dX10_feed_115 : decode cX10_feed 115 = .ok (.if_icmp .ne 8, 3) := by decide +kernel
theorem dX10_feed_118 : decode cX10_feed 118 = .ok (.iload 5, 2) := by decide +kernel
theorem dX10_feed_120 : decode cX10_feed 120 = .ok (.goto 5, 3) := by decide +kernel
theorem dX10_feed_123 : decode cX10_feed 123 = .ok (.iload 6, 2) := by decide +kernel
theorem dX10_feed_125 : decode cX10_feed 125 = .ok (.iastore, 1) := by decide +kernel
theorem dX10_feed_126 : decode cX10_feed 126 = .ok (.aload_n 0, 1) := by decide +kernel
theorem dX10_feed_127 : decode cX10_feed 127 = .ok (.dup, 1) := by decide +kernel
theorem dX10_feed_128 : decode cX10_feed 128 = .ok (.getfield 83, 3) := by decide +kernel
theorem dX10_feed_131 : decode cX10_feed 131 = .ok (.iconst 1, 1) := by decide +kernel
theorem dX10_feed_132 : decode cX10_feed 132 = .ok (.iadd, 1) := by decide +kernel
theorem dX10_feed_133 : decode cX10_feed 133 = .ok (.putfield 83, 3) := by decide +kernel
theorem dX10_feed_136 : decode cX10_feed 136 = .ok (.iinc 7 1, 3) := by decide +kernel
theorem dX10_feed_139 : decode cX10_feed 139 = .ok (.goto (-71), 3) := by decide +kernel
theorem dX10_feed_142 : decode cX10_feed 142 = .ok (.aload_n 0, 1) := by decide +kernel
theorem dX10_feed_143 : decode cX10_feed 143 = .ok (.getfield 83, 3) := by decide +kernel
theorem dX10_feed_146 : decode cX10_feed 146 = .ok (.ireturn, 1) := by decide +kernel
theorem dX10_wordFrom_0 : decode cX10_wordFrom 0 = .ok (.iconst 0, 1) := by decide +kernel
theorem dX10_wordFrom_1 : decode cX10_wordFrom 1 = .ok (.istore_n 3, 1) := by decide +kernel
theorem dX10_wordFrom_2 : decode cX10_wordFrom 2 = .ok (.iload_n 3, 1) := by decide +kernel
theorem dX10_wordFrom_3 : decode cX10_wordFrom 3 = .ok (.bipush 12, 2) := by decide +kernel
theorem dX10_wordFrom_5 : decode cX10_wordFrom 5 = .ok (.if_icmp .ge 96, 3) := by decide +kernel
theorem dX10_wordFrom_8 : decode cX10_wordFrom 8 = .ok (.iload_n 2, 1) := by decide +kernel
theorem dX10_wordFrom_9 : decode cX10_wordFrom 9 = .ok (.iload_n 1, 1) := by decide +kernel
theorem dX10_wordFrom_10 : decode cX10_wordFrom 10 = .ok (.isub, 1) := by decide +kernel
theorem dX10_wordFrom_11 : decode cX10_wordFrom 11 = .ok (.bipush 8, 2) := by decide +kernel
theorem dX10_wordFrom_13 : decode cX10_wordFrom 13 = .ok (.if_icmp .gt 7, 3) := by decide +kernel
theorem dX10_wordFrom_16 : decode cX10_wordFrom 16 = .ok (.iconst 1, 1) := by decide +kernel
theorem dX10_wordFrom_17 : decode cX10_wordFrom 17 = .ok (.goto 4, 3) := by decide +kernel
theorem dX10_wordFrom_20 : decode cX10_wordFrom 20 = .ok (.iconst 0, 1) := by decide +kernel
theorem dX10_wordFrom_21 : decode cX10_wordFrom 21 = .ok (.istore 4, 2) := by decide +kernel
theorem dX10_wordFrom_23 : decode cX10_wordFrom 23 = .ok (.iconst 0, 1) := by decide +kernel
theorem dX10_wordFrom_24 : decode cX10_wordFrom 24 = .ok (.istore 5, 2) := by decide +kernel
theorem dX10_wordFrom_26 : decode cX10_wordFrom 26 = .ok (.iload 5, 2) := by decide +kernel
theorem dX10_wordFrom_28 : decode cX10_wordFrom 28 = .ok (.bipush 8, 2) := by decide +kernel
theorem dX10_wordFrom_30 : decode cX10_wordFrom 30 = .ok (.if_icmp .ge 58, 3) := by decide +kernel
theorem dX10_wordFrom_33 : decode cX10_wordFrom 33 = .ok (.iload 4, 2) := by decide +kernel
theorem dX10_wordFrom_35 : decode cX10_wordFrom 35 = .ok (.ifCond .eq 53, 3) := by decide +kernel
theorem dX10_wordFrom_38 : decode cX10_wordFrom 38 = .ok (.aload_n 0, 1) := by decide +kernel
theorem dX10_wordFrom_39 : decode cX10_wordFrom 39 = .ok (.getfield 62, 3) := by decide +kernel
theorem dX10_wordFrom_42 : decode cX10_wordFrom 42 = .ok (.bipush 8, 2) := by decide +kernel
theorem dX10_wordFrom_44 : decode cX10_wordFrom 44 = .ok (.iload_n 3, 1) := by decide +kernel
theorem dX10_wordFrom_45 : decode cX10_wordFrom 45 = .ok (.imul, 1) := by decide +kernel
theorem dX10_wordFrom_46 : decode cX10_wordFrom 46 = .ok (.iload 5, 2) := by decide +kernel
theorem dX10_wordFrom_48 : decode cX10_wordFrom 48 = .ok (.iadd, 1) := by decide +kernel
theorem dX10_wordFrom_49 : decode cX10_wordFrom 49 = .ok (.iaload, 1) := by decide +kernel
theorem dX10_wordFrom_50 : decode cX10_wordFrom 50 = .ok (.iload_n 1, 1) := by decide +kernel
theorem dX10_wordFrom_51 : decode cX10_wordFrom 51 = .ok (.iload 5, 2) := by decide +kernel
theorem dX10_wordFrom_53 : decode cX10_wordFrom 53 = .ok (.iadd, 1) := by decide +kernel
theorem dX10_wordFrom_54 : decode cX10_wordFrom 54 = .ok (.iload_n 2, 1) := by decide +kernel
theorem dX10_wordFrom_55 : decode cX10_wordFrom 55 = .ok (.if_icmp .ge 15, 3) := by decide +kernel
theorem dX10_wordFrom_58 : decode cX10_wordFrom 58 = .ok (.aload_n 0, 1) := by decide +kernel
theorem dX10_wordFrom_59 : decode cX10_wordFrom 59 = .ok (.getfield 32, 3) := by decide +kernel
theorem dX10_wordFrom_62 : decode cX10_wordFrom 62 = .ok (.iload_n 1, 1) := by decide +kernel
theorem dX10_wordFrom_63 : decode cX10_wordFrom 63 = .ok (.iload 5, 2) := by decide +kernel
theorem dX10_wordFrom_65 : decode cX10_wordFrom 65 = .ok (.iadd, 1) := by decide +kernel
theorem dX10_wordFrom_66 : decode cX10_wordFrom 66 = .ok (.iaload, 1) := by decide +kernel
theorem dX10_wordFrom_67 : decode cX10_wordFrom 67 = .ok (.goto 5, 3) := by decide +kernel
theorem dX10_wordFrom_70 : decode cX10_wordFrom 70 = .ok (.bipush 32, 2) := by decide +kernel
theorem dX10_wordFrom_72 : decode cX10_wordFrom 72 = .ok (.if_icmp .ne 7, 3) := by decide +kernel
theorem dX10_wordFrom_75 : decode cX10_wordFrom 75 = .ok (.iconst 1, 1) := by decide +kernel
theorem dX10_wordFrom_76 : decode cX10_wordFrom 76 = .ok (.goto 4, 3) := by decide +kernel
theorem dX10_wordFrom_79 : decode cX10_wordFrom 79 = .ok (.iconst 0, 1) := by decide +kernel
theorem dX10_wordFrom_80 : decode cX10_wordFrom 80 = .ok (.istore 4, 2) := by decide +kernel
theorem dX10_wordFrom_82 : decode cX10_wordFrom 82 = .ok (.iinc 5 1, 3) := by decide +kernel
theorem dX10_wordFrom_85 : decode cX10_wordFrom 85 = .ok (.goto (-59), 3) := by decide +kernel
theorem dX10_wordFrom_88 : decode cX10_wordFrom 88 = .ok (.iload 4, 2) := by decide +kernel
theorem dX10_wordFrom_90 : decode cX10_wordFrom 90 = .ok (.ifCond .eq 5, 3) := by decide +kernel
theorem dX10_wordFrom_93 : decode cX10_wordFrom 93 = .ok (.iload_n 3, 1) := by decide +kernel
theorem dX10_wordFrom_94 : decode cX10_wordFrom 94 = .ok (.ireturn, 1) := by decide +kernel
theorem dX10_wordFrom_95 : decode cX10_wordFrom 95 = .ok (.iinc 3 1, 3) := by decide +kernel
theorem dX10_wordFrom_98 : decode cX10_wordFrom 98 = .ok (.goto (-96), 3) := by decide +kernel
theorem dX10_wordFrom_101 : decode cX10_wordFrom 101 = .ok (.bipush 12, 2) := by decide +kernel
theorem dX10_wordFrom_103 : decode cX10_wordFrom 103 = .ok (.ireturn, 1) := by decide +kernel
theorem dX10_next_0 : decode cX10_next 0 = .ok (.aload_n 0, 1) := by decide +kernel
theorem dX10_next_1 : decode cX10_next 1 = .ok (.getfield 129, 3) := by decide +kernel
theorem dX10_next_4 : decode cX10_next 4 = .ok (.aload_n 0, 1) := by decide +kernel
theorem dX10_next_5 : decode cX10_next 5 = .ok (.getfield 83, 3) := by decide +kernel
theorem dX10_next_8 : decode cX10_next 8 = .ok (.if_icmp .ge 44, 3) := by decide +kernel
theorem dX10_next_11 : decode cX10_next 11 = .ok (.aload_n 0, 1) := by decide +kernel
theorem dX10_next_12 : decode cX10_next 12 = .ok (.getfield 32, 3) := by decide +kernel
theorem dX10_next_15 : decode cX10_next 15 = .ok (.aload_n 0, 1) := by decide +kernel
theorem dX10_next_16 : decode cX10_next 16 = .ok (.getfield 129, 3) := by decide +kernel
theorem dX10_next_19 : decode cX10_next 19 = .ok (.iaload, 1) := by decide +kernel
theorem dX10_next_20 : decode cX10_next 20 = .ok (.bipush 32, 2) := by decide +kernel
theorem dX10_next_22 : decode cX10_next 22 = .ok (.if_icmp .eq 17, 3) := by decide +kernel
theorem dX10_next_25 : decode cX10_next 25 = .ok (.aload_n 0, 1) := by decide +kernel
theorem dX10_next_26 : decode cX10_next 26 = .ok (.getfield 32, 3) := by decide +kernel
theorem dX10_next_29 : decode cX10_next 29 = .ok (.aload_n 0, 1) := by decide +kernel
theorem dX10_next_30 : decode cX10_next 30 = .ok (.getfield 129, 3) := by decide +kernel
theorem dX10_next_33 : decode cX10_next 33 = .ok (.iaload, 1) := by decide +kernel
theorem dX10_next_34 : decode cX10_next 34 = .ok (.bipush 10, 2) := by decide +kernel
theorem dX10_next_36 : decode cX10_next 36 = .ok (.if_icmp .ne 16, 3) := by decide +kernel
theorem dX10_next_39 : decode cX10_next 39 = .ok (.aload_n 0, 1) := by decide +kernel
theorem dX10_next_40 : decode cX10_next 40 = .ok (.dup, 1) := by decide +kernel
theorem dX10_next_41 : decode cX10_next 41 = .ok (.getfield 129, 3) := by decide +kernel
theorem dX10_next_44 : decode cX10_next 44 = .ok (.iconst 1, 1) := by decide +kernel
theorem dX10_next_45 : decode cX10_next 45 = .ok (.iadd, 1) := by decide +kernel
theorem dX10_next_46 : decode cX10_next 46 = .ok (.putfield 129, 3) := by decide +kernel
theorem dX10_next_49 : decode cX10_next 49 = .ok (.goto (-49), 3) := by decide +kernel
theorem dX10_next_52 : decode cX10_next 52 = .ok (.aload_n 0, 1) := by decide +kernel
theorem dX10_next_53 : decode cX10_next 53 = .ok (.aload_n 0, 1) := by decide +kernel
theorem dX10_next_54 : decode cX10_next 54 = .ok (.getfield 129, 3) := by decide +kernel
theorem dX10_next_57 : decode cX10_next 57 = .ok (.putfield 132, 3) := by decide +kernel
theorem dX10_next_60 : decode cX10_next 60 = .ok (.aload_n 0, 1) := by decide +kernel
theorem dX10_next_61 : decode cX10_next 61 = .ok (.iconst 0, 1) := by decide +kernel
theorem dX10_next_62 : decode cX10_next 62 = .ok (.putfield 135, 3) := by decide +kernel
theorem dX10_next_65 : decode cX10_next 65 = .ok (.aload_n 0, 1) := by decide +kernel
theorem dX10_next_66 : decode cX10_next 66 = .ok (.iconst 0, 1) := by decide +kernel
theorem dX10_next_67 : decode cX10_next 67 = .ok (.putfield 138, 3) := by decide +kernel
theorem dX10_next_70 : decode cX10_next 70 = .ok (.aload_n 0, 1) := by decide +kernel
theorem dX10_next_71 : decode cX10_next 71 = .ok (.getfield 129, 3) := by decide +kernel
theorem dX10_next_74 : decode cX10_next 74 = .ok (.aload_n 0, 1) := by decide +kernel
theorem dX10_next_75 : decode cX10_next 75 = .ok (.getfield 83, 3) := by decide +kernel
theorem dX10_next_78 : decode cX10_next 78 = .ok (.if_icmp .ne 4, 3) := by decide +kernel
theorem dX10_next_81 : decode cX10_next 81 = .ok (.return_, 1) := by decide +kernel
theorem dX10_next_82 : decode cX10_next 82 = .ok (.aload_n 0, 1) := by decide +kernel
theorem dX10_next_83 : decode cX10_next 83 = .ok (.getfield 32, 3) := by decide +kernel
theorem dX10_next_86 : decode cX10_next 86 = .ok (.aload_n 0, 1) := by decide +kernel
theorem dX10_next_87 : decode cX10_next 87 = .ok (.getfield 129, 3) := by decide +kernel
theorem dX10_next_90 : decode cX10_next 90 = .ok (.iaload, 1) := by decide +kernel
theorem dX10_next_91 : decode cX10_next 91 = .ok (.istore_n 1, 1) := by decide +kernel
theorem dX10_next_92 : decode cX10_next 92 = .ok (.iload_n 1, 1) := by decide +kernel
theorem dX10_next_93 : decode cX10_next 93 = .ok (.bipush 97, 2) := by decide +kernel
theorem dX10_next_95 : decode cX10_next 95 = .ok (.bipush 122, 2) := by decide +kernel
theorem dX10_next_97 : decode cX10_next 97 = .ok (.invokestatic 91, 3) := by decide +kernel
theorem dX10_next_100 : decode cX10_next 100 = .ok (.ifCond .eq 117, 3) := by decide +kernel
theorem dX10_next_103 : decode cX10_next 103 = .ok (.aload_n 0, 1) := by decide +kernel
theorem dX10_next_104 : decode cX10_next 104 = .ok (.getfield 129, 3) := by decide +kernel
theorem dX10_next_107 : decode cX10_next 107 = .ok (.aload_n 0, 1) := by decide +kernel
theorem dX10_next_108 : decode cX10_next 108 = .ok (.getfield 83, 3) := by decide +kernel
theorem dX10_next_111 : decode cX10_next 111 = .ok (.if_icmp .ge 35, 3) := by decide +kernel
theorem dX10_next_114 : decode cX10_next 114 = .ok (.aload_n 0, 1) := by decide +kernel
theorem dX10_next_115 : decode cX10_next 115 = .ok (.getfield 32, 3) := by decide +kernel
theorem dX10_next_118 : decode cX10_next 118 = .ok (.aload_n 0, 1) := by decide +kernel
theorem dX10_next_119 : decode cX10_next 119 = .ok (.getfield 129, 3) := by decide +kernel
theorem dX10_next_122 : decode cX10_next 122 = .ok (.iaload, 1) := by decide +kernel
theorem dX10_next_123 : decode cX10_next 123 = .ok (.bipush 97, 2) := by decide +kernel
theorem dX10_next_125 : decode cX10_next 125 = .ok (.bipush 122, 2) := by decide +kernel
theorem dX10_next_127 : decode cX10_next 127 = .ok (.invokestatic 91, 3) := by decide +kernel
theorem dX10_next_130 : decode cX10_next 130 = .ok (.ifCond .eq 16, 3) := by decide +kernel
theorem dX10_next_133 : decode cX10_next 133 = .ok (.aload_n 0, 1) := by decide +kernel
theorem dX10_next_134 : decode cX10_next 134 = .ok (.dup, 1) := by decide +kernel
theorem dX10_next_135 : decode cX10_next 135 = .ok (.getfield 129, 3) := by decide +kernel
theorem dX10_next_138 : decode cX10_next 138 = .ok (.iconst 1, 1) := by decide +kernel
theorem dX10_next_139 : decode cX10_next 139 = .ok (.iadd, 1) := by decide +kernel
theorem dX10_next_140 : decode cX10_next 140 = .ok (.putfield 129, 3) := by decide +kernel
theorem dX10_next_143 : decode cX10_next 143 = .ok (.goto (-40), 3) := by decide +kernel
theorem dX10_next_146 : decode cX10_next 146 = .ok (.aload_n 0, 1) := by decide +kernel
theorem dX10_next_147 : decode cX10_next 147 = .ok (.aload_n 0, 1) := by decide +kernel
theorem dX10_next_148 : decode cX10_next 148 = .ok (.getfield 132, 3) := by decide +kernel
theorem dX10_next_151 : decode cX10_next 151 = .ok (.aload_n 0, 1) := by decide +kernel
theorem dX10_next_152 : decode cX10_next 152 = .ok (.getfield 129, 3) := by decide +kernel
theorem dX10_next_155 : decode cX10_next 155 = .ok (.invokevirtual 141, 3) := by decide +kernel
theorem dX10_next_158 : decode cX10_next 158 = .ok (.istore_n 2, 1) := by decide +kernel
theorem dX10_next_159 : decode cX10_next 159 = .ok (.aload_n 0, 1) := by decide +kernel
theorem dX10_next_160 : decode cX10_next 160 = .ok (.iload_n 2, 1) := by decide +kernel
theorem dX10_next_161 : decode cX10_next 161 = .ok (.iconst 3, 1) := by decide +kernel
theorem dX10_next_162 : decode cX10_next 162 = .ok (.if_icmp .ge 7, 3) := by decide +kernel
theorem dX10_next_165 : decode cX10_next 165 = .ok (.iconst 3, 1) := by decide +kernel
theorem dX10_next_166 : decode cX10_next 166 = .ok (.goto 29, 3) := by decide +kernel
theorem dX10_next_169 : decode cX10_next 169 = .ok (.iload_n 2, 1) := by decide +kernel
theorem dX10_next_170 : decode cX10_next 170 = .ok (.bipush 9, 2) := by decide +kernel
theorem dX10_next_172 : decode cX10_next 172 = .ok (.if_icmp .ge 7, 3) := by decide +kernel
theorem dX10_next_175 : decode cX10_next 175 = .ok (.iconst 2, 1) := by decide +kernel
theorem dX10_next_176 : decode cX10_next 176 = .ok (.goto 19, 3) := by decide +kernel
theorem dX10_next_179 : decode cX10_next 179 = .ok (.iload_n 2, 1) := by decide +kernel
theorem dX10_next_180 : decode cX10_next 180 = .ok (.bipush 12, 2) := by decide +kernel
theorem dX10_next_182 : decode cX10_next 182 = .ok (.if_icmp .ne 7, 3) := by decide +kernel
theorem dX10_next_185 : decode cX10_next 185 = .ok (.iconst (-1), 1) := by decide +kernel
theorem dX10_next_186 : decode cX10_next 186 = .ok (.goto 9, 3) := by decide +kernel
theorem dX10_next_189 : decode cX10_next 189 = .ok (.iconst 4, 1) := by decide +kernel
theorem dX10_next_190 : decode cX10_next 190 = .ok (.iload_n 2, 1) := by decide +kernel
theorem dX10_next_191 : decode cX10_next 191 = .ok (.iadd, 1) := by decide +kernel
theorem dX10_next_192 : decode cX10_next 192 = .ok (.bipush 9, 2) := by decide +kernel
theorem dX10_next_194 : decode cX10_next 194 = .ok (.isub, 1) := by decide +kernel
theorem dX10_next_195 : decode cX10_next 195 = .ok (.putfield 135, 3) := by decide +kernel
theorem dX10_next_198 : decode cX10_next 198 = .ok (.aload_n 0, 1) := by decide +kernel
theorem dX10_next_199 : decode cX10_next 199 = .ok (.iload_n 2, 1) := by decide +kernel
theorem dX10_next_200 : decode cX10_next 200 = .ok (.iconst 3, 1) := by decide +kernel
theorem dX10_next_201 : decode cX10_next 201 = .ok (.if_icmp .ge 7, 3) := by decide +kernel
theorem dX10_next_204 : decode cX10_next 204 = .ok (.iload_n 2, 1) := by decide +kernel
theorem dX10_next_205 : decode cX10_next 205 = .ok (.goto 6, 3) := by decide +kernel
theorem dX10_next_208 : decode cX10_next 208 = .ok (.iload_n 2, 1) := by decide +kernel
theorem dX10_next_209 : decode cX10_next 209 = .ok (.iconst 3, 1) := by decide +kernel
theorem dX10_next_210 : decode cX10_next 210 = .ok (.isub, 1) := by decide +kernel
theorem dX10_next_211 : decode cX10_next 211 = .ok (.putfield 138, 3) := by decide +kernel
theorem dX10_next_214 : decode cX10_next 214 = .ok (.goto 189, 3) := by decide +kernel
theorem dX10_next_217 : decode cX10_next 217 = .ok (.iload_n 1, 1) := by decide +kernel
theorem dX10_next_218 : decode cX10_next 218 = .ok (.bipush 48, 2) := by decide +kernel
theorem dX10_next_220 : decode cX10_next 220 = .ok (.bipush 57, 2) := by decide +kernel
theorem dX10_next_222 : decode cX10_next 222 = .ok (.invokestatic 91, 3) := by decide +kernel
theorem dX10_next_225 : decode cX10_next 225 = .ok (.ifCond .eq 101, 3) := by decide +kernel
theorem dX10_next_228 : decode cX10_next 228 = .ok (.iconst 0, 1) := by decide +kernel
theorem dX10_next_229 : decode cX10_next 229 = .ok (.istore_n 2, 1) := by decide +kernel
theorem dX10_next_230 : decode cX10_next 230 = .ok (.aload_n 0, 1) := by decide +kernel
theorem dX10_next_231 : decode cX10_next 231 = .ok (.getfield 129, 3) := by decide +kernel
theorem dX10_next_234 : decode cX10_next 234 = .ok (.aload_n 0, 1) := by decide +kernel
theorem dX10_next_235 : decode cX10_next 235 = .ok (.getfield 83, 3) := by decide +kernel
theorem dX10_next_238 : decode cX10_next 238 = .ok (.if_icmp .ge 71, 3) := by decide +kernel
theorem dX10_next_241 : decode cX10_next 241 = .ok (.aload_n 0, 1) := by decide +kernel
theorem dX10_next_242 : decode cX10_next 242 = .ok (.getfield 32, 3) := by decide +kernel
theorem dX10_next_245 : decode cX10_next 245 = .ok (.aload_n 0, 1) := by decide +kernel
theorem dX10_next_246 : decode cX10_next 246 = .ok (.getfield 129, 3) := by decide +kernel
theorem dX10_next_249 : decode cX10_next 249 = .ok (.iaload, 1) := by decide +kernel
theorem dX10_next_250 : decode cX10_next 250 = .ok (.bipush 48, 2) := by decide +kernel
theorem dX10_next_252 : decode cX10_next 252 = .ok (.bipush 57, 2) := by decide +kernel
theorem dX10_next_254 : decode cX10_next 254 = .ok (.invokestatic 91, 3) := by decide +kernel
theorem dX10_next_257 : decode cX10_next 257 = .ok (.ifCond .eq 52, 3) := by decide +kernel
theorem dX10_next_260 : decode cX10_next 260 = .ok (.aload_n 0, 1) := by decide +kernel
theorem dX10_next_261 : decode cX10_next 261 = .ok (.iload_n 2, 1) := by decide +kernel
theorem dX10_next_262 : decode cX10_next 262 = .ok (.iconst 4, 1) := by decide +kernel
theorem dX10_next_263 : decode cX10_next 263 = .ok (.if_icmp .ge 26, 3) := by decide +kernel
theorem dX10_next_266 : decode cX10_next 266 = .ok (.bipush 10, 2) := by decide +kernel
theorem dX10_next_268 : decode cX10_next 268 = .ok (.aload_n 0, 1) := by decide +kernel
theorem dX10_next_269 : decode cX10_next 269 = .ok (.getfield 138, 3) := by decide +kernel
theorem dX10_next_272 : decode cX10_next 272 = .ok (.imul, 1) := by decide +kernel
theorem dX10_next_273 : decode cX10_next 273 = .ok (.aload_n 0, 1) := by decide +kernel
theorem dX10_next_274 : decode cX10_next 274 = .ok (.getfield 32, 3) := by decide +kernel
theorem dX10_next_277 : decode cX10_next 277 = .ok (.aload_n 0, 1) := by decide +kernel
theorem dX10_next_278 : decode cX10_next 278 = .ok (.getfield 129, 3) := by decide +kernel
theorem dX10_next_281 : decode cX10_next 281 = .ok (.iaload, 1) := by decide +kernel
theorem dX10_next_282 : decode cX10_next 282 = .ok (.iadd, 1) := by decide +kernel
theorem dX10_next_283 : decode cX10_next 283 = .ok (.bipush 48, 2) := by decide +kernel
theorem dX10_next_285 : decode cX10_next 285 = .ok (.isub, 1) := by decide +kernel
theorem dX10_next_286 : decode cX10_next 286 = .ok (.goto 4, 3) := by decide +kernel
theorem dX10_next_289 : decode cX10_next 289 = .ok (.iconst 0, 1) := by decide +kernel
theorem dX10_next_290 : decode cX10_next 290 = .ok (.putfield 138, 3) := by decide +kernel
theorem dX10_next_293 : decode cX10_next 293 = .ok (.iinc 2 1, 3) := by decide +kernel
theorem dX10_next_296 : decode cX10_next 296 = .ok (.aload_n 0, 1) := by decide +kernel
theorem dX10_next_297 : decode cX10_next 297 = .ok (.dup, 1) := by decide +kernel
theorem dX10_next_298 : decode cX10_next 298 = .ok (.getfield 129, 3) := by decide +kernel
theorem dX10_next_301 : decode cX10_next 301 = .ok (.iconst 1, 1) := by decide +kernel
theorem dX10_next_302 : decode cX10_next 302 = .ok (.iadd, 1) := by decide +kernel
theorem dX10_next_303 : decode cX10_next 303 = .ok (.putfield 129, 3) := by decide +kernel
theorem dX10_next_306 : decode cX10_next 306 = .ok (.goto (-76), 3) := by decide +kernel
theorem dX10_next_309 : decode cX10_next 309 = .ok (.aload_n 0, 1) := by decide +kernel
theorem dX10_next_310 : decode cX10_next 310 = .ok (.iload_n 2, 1) := by decide +kernel
theorem dX10_next_311 : decode cX10_next 311 = .ok (.iconst 4, 1) := by decide +kernel
theorem dX10_next_312 : decode cX10_next 312 = .ok (.if_icmp .le 7, 3) := by decide +kernel
theorem dX10_next_315 : decode cX10_next 315 = .ok (.iconst (-1), 1) := by decide +kernel
theorem dX10_next_316 : decode cX10_next 316 = .ok (.goto 4, 3) := by decide +kernel
theorem dX10_next_319 : decode cX10_next 319 = .ok (.iconst 1, 1) := by decide +kernel
theorem dX10_next_320 : decode cX10_next 320 = .ok (.putfield 135, 3) := by decide +kernel
theorem dX10_next_323 : decode cX10_next 323 = .ok (.goto 80, 3) := by decide +kernel
theorem dX10_next_326 : decode cX10_next 326 = .ok (.iload_n 1, 1) := by decide +kernel
theorem dX10_next_327 : decode cX10_next 327 = .ok (.bipush 40, 2) := by decide +kernel
theorem dX10_next_329 : decode cX10_next 329 = .ok (.if_icmp .eq 45, 3) := by decide +kernel
theorem dX10_next_332 : decode cX10_next 332 = .ok (.iload_n 1, 1) := by decide +kernel
theorem dX10_next_333 : decode cX10_next 333 = .ok (.bipush 41, 2) := by decide +kernel
theorem dX10_next_335 : decode cX10_next 335 = .ok (.if_icmp .eq 39, 3) := by decide +kernel
theorem dX10_next_338 : decode cX10_next 338 = .ok (.iload_n 1, 1) := by decide +kernel
theorem dX10_next_339 : decode cX10_next 339 = .ok (.bipush 59, 2) := by decide +kernel
theorem dX10_next_341 : decode cX10_next 341 = .ok (.if_icmp .eq 33, 3) := by decide +kernel
theorem dX10_next_344 : decode cX10_next 344 = .ok (.iload_n 1, 1) := by decide +kernel
theorem dX10_next_345 : decode cX10_next 345 = .ok (.bipush 43, 2) := by decide +kernel
theorem dX10_next_347 : decode cX10_next 347 = .ok (.if_icmp .eq 27, 3) := by decide +kernel
theorem dX10_next_350 : decode cX10_next 350 = .ok (.iload_n 1, 1) := by decide +kernel
theorem dX10_next_351 : decode cX10_next 351 = .ok (.bipush 45, 2) := by decide +kernel
theorem dX10_next_353 : decode cX10_next 353 = .ok (.if_icmp .eq 21, 3) := by decide +kernel
theorem dX10_next_356 : decode cX10_next 356 = .ok (.iload_n 1, 1) := by decide +kernel
theorem dX10_next_357 : decode cX10_next 357 = .ok (.bipush 42, 2) := by decide +kernel
theorem dX10_next_359 : decode cX10_next 359 = .ok (.if_icmp .eq 15, 3) := by decide +kernel
theorem dX10_next_362 : decode cX10_next 362 = .ok (.iload_n 1, 1) := by decide +kernel
theorem dX10_next_363 : decode cX10_next 363 = .ok (.bipush 60, 2) := by decide +kernel
theorem dX10_next_365 : decode cX10_next 365 = .ok (.if_icmp .eq 9, 3) := by decide +kernel
theorem dX10_next_368 : decode cX10_next 368 = .ok (.iload_n 1, 1) := by decide +kernel
theorem dX10_next_369 : decode cX10_next 369 = .ok (.bipush 61, 2) := by decide +kernel
theorem dX10_next_371 : decode cX10_next 371 = .ok (.if_icmp .ne 7, 3) := by decide +kernel
theorem dX10_next_374 : decode cX10_next 374 = .ok (.iconst 1, 1) := by decide +kernel
theorem dX10_next_375 : decode cX10_next 375 = .ok (.goto 4, 3) := by decide +kernel
theorem dX10_next_378 : decode cX10_next 378 = .ok (.iconst 0, 1) := by decide +kernel
theorem dX10_next_379 : decode cX10_next 379 = .ok (.istore_n 2, 1) := by decide +kernel
theorem dX10_next_380 : decode cX10_next 380 = .ok (.aload_n 0, 1) := by decide +kernel
theorem dX10_next_381 : decode cX10_next 381 = .ok (.iload_n 2, 1) := by decide +kernel
theorem dX10_next_382 : decode cX10_next 382 = .ok (.ifCond .eq 7, 3) := by decide +kernel
theorem dX10_next_385 : decode cX10_next 385 = .ok (.iload_n 1, 1) := by decide +kernel
theorem dX10_next_386 : decode cX10_next 386 = .ok (.goto 4, 3) := by decide +kernel
theorem dX10_next_389 : decode cX10_next 389 = .ok (.iconst (-1), 1) := by decide +kernel
theorem dX10_next_390 : decode cX10_next 390 = .ok (.putfield 135, 3) := by decide +kernel
theorem dX10_next_393 : decode cX10_next 393 = .ok (.aload_n 0, 1) := by decide +kernel
theorem dX10_next_394 : decode cX10_next 394 = .ok (.dup, 1) := by decide +kernel
theorem dX10_next_395 : decode cX10_next 395 = .ok (.getfield 129, 3) := by decide +kernel
theorem dX10_next_398 : decode cX10_next 398 = .ok (.iconst 1, 1) := by decide +kernel
theorem dX10_next_399 : decode cX10_next 399 = .ok (.iadd, 1) := by decide +kernel
theorem dX10_next_400 : decode cX10_next 400 = .ok (.putfield 129, 3) := by decide +kernel
theorem dX10_next_403 : decode cX10_next 403 = .ok (.return_, 1) := by decide +kernel
theorem dX10_rank_0 : decode cX10_rank 0 = .ok (.iload_n 0, 1) := by decide +kernel
theorem dX10_rank_1 : decode cX10_rank 1 = .ok (.ifCond .ne 7, 3) := by decide +kernel
theorem dX10_rank_4 : decode cX10_rank 4 = .ok (.iconst 0, 1) := by decide +kernel
theorem dX10_rank_5 : decode cX10_rank 5 = .ok (.goto 66, 3) := by decide +kernel
theorem dX10_rank_8 : decode cX10_rank 8 = .ok (.iload_n 0, 1) := by decide +kernel
theorem dX10_rank_9 : decode cX10_rank 9 = .ok (.bipush 11, 2) := by decide +kernel
theorem dX10_rank_11 : decode cX10_rank 11 = .ok (.if_icmp .ne 7, 3) := by decide +kernel
theorem dX10_rank_14 : decode cX10_rank 14 = .ok (.iconst 1, 1) := by decide +kernel
theorem dX10_rank_15 : decode cX10_rank 15 = .ok (.goto 56, 3) := by decide +kernel
theorem dX10_rank_18 : decode cX10_rank 18 = .ok (.iload_n 0, 1) := by decide +kernel
theorem dX10_rank_19 : decode cX10_rank 19 = .ok (.bipush 12, 2) := by decide +kernel
theorem dX10_rank_21 : decode cX10_rank 21 = .ok (.if_icmp .ne 7, 3) := by decide +kernel
theorem dX10_rank_24 : decode cX10_rank 24 = .ok (.iconst 2, 1) := by decide +kernel
theorem dX10_rank_25 : decode cX10_rank 25 = .ok (.goto 46, 3) := by decide +kernel
theorem dX10_rank_28 : decode cX10_rank 28 = .ok (.iload_n 0, 1) := by decide +kernel
theorem dX10_rank_29 : decode cX10_rank 29 = .ok (.bipush 13, 2) := by decide +kernel
theorem dX10_rank_31 : decode cX10_rank 31 = .ok (.if_icmp .ne 7, 3) := by decide +kernel
theorem dX10_rank_34 : decode cX10_rank 34 = .ok (.iconst 3, 1) := by decide +kernel
theorem dX10_rank_35 : decode cX10_rank 35 = .ok (.goto 36, 3) := by decide +kernel
theorem dX10_rank_38 : decode cX10_rank 38 = .ok (.iload_n 0, 1) := by decide +kernel
theorem dX10_rank_39 : decode cX10_rank 39 = .ok (.bipush 15, 2) := by decide +kernel
theorem dX10_rank_41 : decode cX10_rank 41 = .ok (.if_icmp .gt 7, 3) := by decide +kernel
theorem dX10_rank_44 : decode cX10_rank 44 = .ok (.iconst 4, 1) := by decide +kernel
theorem dX10_rank_45 : decode cX10_rank 45 = .ok (.goto 26, 3) := by decide +kernel
theorem dX10_rank_48 : decode cX10_rank 48 = .ok (.iload_n 0, 1) := by decide +kernel
theorem dX10_rank_49 : decode cX10_rank 49 = .ok (.bipush 17, 2) := by decide +kernel
theorem dX10_rank_51 : decode cX10_rank 51 = .ok (.if_icmp .gt 7, 3) := by decide +kernel
theorem dX10_rank_54 : decode cX10_rank 54 = .ok (.iconst 5, 1) := by decide +kernel
theorem dX10_rank_55 : decode cX10_rank 55 = .ok (.goto 16, 3) := by decide +kernel
theorem dX10_rank_58 : decode cX10_rank 58 = .ok (.iload_n 0, 1) := by decide +kernel
theorem dX10_rank_59 : decode cX10_rank 59 = .ok (.bipush 18, 2) := by decide +kernel
theorem dX10_rank_61 : decode cX10_rank 61 = .ok (.if_icmp .ne 8, 3) := by decide +kernel
theorem dX10_rank_64 : decode cX10_rank 64 = .ok (.bipush 6, 2) := by decide +kernel
theorem dX10_rank_66 : decode cX10_rank 66 = .ok (.goto 5, 3) := by decide +kernel
theorem dX10_rank_69 : decode cX10_rank 69 = .ok (.bipush 7, 2) := by decide +kernel
theorem dX10_rank_71 : decode cX10_rank 71 = .ok (.ireturn, 1) := by decide +kernel
theorem dX10_puts_0 : decode cX10_puts 0 = .ok (.aload_n 0, 1) := by decide +kernel
theorem dX10_puts_1 : decode cX10_puts 1 = .ok (.getfield 35, 3) := by decide +kernel
theorem dX10_puts_4 : decode cX10_puts 4 = .ok (.sipush 200, 3) := by decide +kernel
theorem dX10_puts_7 : decode cX10_puts 7 = .ok (.aload_n 0, 1) := by decide +kernel
theorem dX10_puts_8 : decode cX10_puts 8 = .ok (.getfield 120, 3) := by decide +kernel
theorem dX10_puts_11 : decode cX10_puts 11 = .ok (.imul, 1) := by decide +kernel
theorem dX10_puts_12 : decode cX10_puts 12 = .ok (.aload_n 0, 1) := by decide +kernel
theorem dX10_puts_13 : decode cX10_puts 13 = .ok (.getfield 145, 3) := by decide +kernel
theorem dX10_puts_16 : decode cX10_puts 16 = .ok (.iadd, 1) := by decide +kernel
theorem dX10_puts_17 : decode cX10_puts 17 = .ok (.iload_n 1, 1) := by decide +kernel
theorem dX10_puts_18 : decode cX10_puts 18 = .ok (.iastore, 1) := by decide +kernel
theorem dX10_puts_19 : decode cX10_puts 19 = .ok (.aload_n 0, 1) := by decide +kernel
theorem dX10_puts_20 : decode cX10_puts 20 = .ok (.dup, 1) := by decide +kernel
theorem dX10_puts_21 : decode cX10_puts 21 = .ok (.getfield 145, 3) := by decide +kernel
theorem dX10_puts_24 : decode cX10_puts 24 = .ok (.iconst 1, 1) := by decide +kernel
theorem dX10_puts_25 : decode cX10_puts 25 = .ok (.iadd, 1) := by decide +kernel
theorem dX10_puts_26 : decode cX10_puts 26 = .ok (.putfield 145, 3) := by decide +kernel
theorem dX10_puts_29 : decode cX10_puts 29 = .ok (.return_, 1) := by decide +kernel
theorem dX10_unwinds_0 : decode cX10_unwinds 0 = .ok (.aload_n 0, 1) := by decide +kernel
theorem dX10_unwinds_1 : decode cX10_unwinds 1 = .ok (.getfield 148, 3) := by decide +kernel
theorem dX10_unwinds_4 : decode cX10_unwinds 4 = .ok (.ifCond .le 75, 3) := by decide +kernel
theorem dX10_unwinds_7 : decode cX10_unwinds 7 = .ok (.aload_n 0, 1) := by decide +kernel
theorem dX10_unwinds_8 : decode cX10_unwinds 8 = .ok (.getfield 65, 3) := by decide +kernel
theorem dX10_unwinds_11 : decode cX10_unwinds 11 = .ok (.aload_n 0, 1) := by decide +kernel
theorem dX10_unwinds_12 : decode cX10_unwinds 12 = .ok (.getfield 148, 3) := by decide +kernel
theorem dX10_unwinds_15 : decode cX10_unwinds 15 = .ok (.iconst 1, 1) := by decide +kernel
theorem dX10_unwinds_16 : decode cX10_unwinds 16 = .ok (.isub, 1) := by decide +kernel
theorem dX10_unwinds_17 : decode cX10_unwinds 17 = .ok (.iaload, 1) := by decide +kernel
theorem dX10_unwinds_18 : decode cX10_unwinds 18 = .ok (.invokestatic 151, 3) := by decide +kernel
theorem dX10_unwinds_21 : decode cX10_unwinds 21 = .ok (.iload_n 1, 1) := by decide +kernel
theorem dX10_unwinds_22 : decode cX10_unwinds 22 = .ok (.if_icmp .lt 57, 3) := by decide +kernel
theorem dX10_unwinds_25 : decode cX10_unwinds 25 = .ok (.aload_n 0, 1) := by decide +kernel
theorem dX10_unwinds_26 : decode cX10_unwinds 26 = .ok (.dup, 1) := by decide +kernel
theorem dX10_unwinds_27 : decode cX10_unwinds 27 = .ok (.getfield 148, 3) := by decide +kernel
theorem dX10_unwinds_30 : decode cX10_unwinds 30 = .ok (.iconst 1, 1) := by decide +kernel
theorem dX10_unwinds_31 : decode cX10_unwinds 31 = .ok (.isub, 1) := by decide +kernel
theorem dX10_unwinds_32 : decode cX10_unwinds 32 = .ok (.putfield 148, 3) := by decide +kernel
theorem dX10_unwinds_35 : decode cX10_unwinds 35 = .ok (.aload_n 0, 1) := by decide +kernel
theorem dX10_unwinds_36 : decode cX10_unwinds 36 = .ok (.getfield 65, 3) := by decide +kernel
theorem dX10_unwinds_39 : decode cX10_unwinds 39 = .ok (.aload_n 0, 1) := by decide +kernel
theorem dX10_unwinds_40 : decode cX10_unwinds 40 = .ok (.getfield 148, 3) := by decide +kernel
theorem dX10_unwinds_43 : decode cX10_unwinds 43 = .ok (.iaload, 1) := by decide +kernel
theorem dX10_unwinds_44 : decode cX10_unwinds 44 = .ok (.istore_n 2, 1) := by decide +kernel
theorem dX10_unwinds_45 : decode cX10_unwinds 45 = .ok (.aload_n 0, 1) := by decide +kernel
theorem dX10_unwinds_46 : decode cX10_unwinds 46 = .ok (.dup, 1) := by decide +kernel
theorem dX10_unwinds_47 : decode cX10_unwinds 47 = .ok (.getfield 155, 3) := by decide +kernel
theorem dX10_unwinds_50 : decode cX10_unwinds 50 = .ok (.iload_n 2, 1) := by decide +kernel
theorem dX10_unwinds_51 : decode cX10_unwinds 51 = .ok (.bipush 13, 2) := by decide +kernel
theorem dX10_unwinds_53 : decode cX10_unwinds 53 = .ok (.if_icmp .eq 9, 3) := by decide +kernel
theorem dX10_unwinds_56 : decode cX10_unwinds 56 = .ok (.iload_n 2, 1) := by decide +kernel
theorem dX10_unwinds_57 : decode cX10_unwinds 57 = .ok (.bipush 19, 2) := by decide +kernel
theorem dX10_unwinds_59 : decode cX10_unwinds 59 = .ok (.if_icmp .ne 7, 3) := by decide +kernel
theorem dX10_unwinds_62 : decode cX10_unwinds 62 = .ok (.iconst 1, 1) := by decide +kernel
theorem dX10_unwinds_63 : decode cX10_unwinds 63 = .ok (.goto 4, 3) := by decide +kernel
theorem dX10_unwinds_66 : decode cX10_unwinds 66 = .ok (.iconst 0, 1) := by decide +kernel
theorem dX10_unwinds_67 : decode cX10_unwinds 67 = .ok (.isub, 1) := by decide +kernel
theorem dX10_unwinds_68 : decode cX10_unwinds 68 = .ok (.putfield 155, 3) := by decide +kernel
theorem dX10_unwinds_71 : decode cX10_unwinds 71 = .ok (.aload_n 0, 1) := by decide +kernel
theorem dX10_unwinds_72 : decode cX10_unwinds 72 = .ok (.iload_n 2, 1) := by decide +kernel
theorem dX10_unwinds_73 : decode cX10_unwinds 73 = .ok (.invokevirtual 158, 3) := by decide +kernel
theorem dX10_unwinds_76 : decode cX10_unwinds 76 = .ok (.goto (-76), 3) := by decide +kernel
theorem dX10_unwinds_79 : decode cX10_unwinds 79 = .ok (.return_, 1) := by decide +kernel
theorem dX10_holds_0 : decode cX10_holds 0 = .ok (.aload_n 0, 1) := by decide +kernel
theorem dX10_holds_1 : decode cX10_holds 1 = .ok (.getfield 65, 3) := by decide +kernel
theorem dX10_holds_4 : decode cX10_holds 4 = .ok (.aload_n 0, 1) := by decide +kernel
theorem dX10_holds_5 : decode cX10_holds 5 = .ok (.getfield 148, 3) := by decide +kernel
theorem dX10_holds_8 : decode cX10_holds 8 = .ok (.iload_n 1, 1) := by decide +kernel
theorem dX10_holds_9 : decode cX10_holds 9 = .ok (.iastore, 1) := by decide +kernel
theorem dX10_holds_10 : decode cX10_holds 10 = .ok (.aload_n 0, 1) := by decide +kernel
theorem dX10_holds_11 : decode cX10_holds 11 = .ok (.dup, 1) := by decide +kernel
theorem dX10_holds_12 : decode cX10_holds 12 = .ok (.getfield 148, 3) := by decide +kernel
theorem dX10_holds_15 : decode cX10_holds 15 = .ok (.iconst 1, 1) := by decide +kernel
theorem dX10_holds_16 : decode cX10_holds 16 = .ok (.iadd, 1) := by decide +kernel
theorem dX10_holds_17 : decode cX10_holds 17 = .ok (.putfield 148, 3) := by decide +kernel
theorem dX10_holds_20 : decode cX10_holds 20 = .ok (.return_, 1) := by decide +kernel
theorem dX10_opensOne_0 : decode cX10_opensOne 0 = .ok (.aload_n 0, 1) := by decide +kernel
theorem dX10_opensOne_1 : decode cX10_opensOne 1 = .ok (.getfield 155, 3) := by decide +kernel
theorem dX10_opensOne_4 : decode cX10_opensOne 4 = .ok (.iconst 5, 1) := by decide +kernel
theorem dX10_opensOne_5 : decode cX10_opensOne 5 = .ok (.if_icmp .ne 5, 3) := by decide +kernel
theorem dX10_opensOne_8 : decode cX10_opensOne 8 = .ok (.iconst 0, 1) := by decide +kernel
theorem dX10_opensOne_9 : decode cX10_opensOne 9 = .ok (.ireturn, 1) := by decide +kernel
theorem dX10_opensOne_10 : decode cX10_opensOne 10 = .ok (.aload_n 0, 1) := by decide +kernel
theorem dX10_opensOne_11 : decode cX10_opensOne 11 = .ok (.dup, 1) := by decide +kernel
theorem dX10_opensOne_12 : decode cX10_opensOne 12 = .ok (.getfield 155, 3) := by decide +kernel
theorem dX10_opensOne_15 : decode cX10_opensOne 15 = .ok (.iconst 1, 1) := by decide +kernel
theorem dX10_opensOne_16 : decode cX10_opensOne 16 = .ok (.iadd, 1) := by decide +kernel
theorem dX10_opensOne_17 : decode cX10_opensOne 17 = .ok (.putfield 155, 3) := by decide +kernel
theorem dX10_opensOne_20 : decode cX10_opensOne 20 = .ok (.aload_n 0, 1) := by decide +kernel
theorem dX10_opensOne_21 : decode cX10_opensOne 21 = .ok (.iload_n 1, 1) := by decide +kernel
theorem dX10_opensOne_22 : decode cX10_opensOne 22 = .ok (.invokevirtual 162, 3) := by decide +kernel
theorem dX10_opensOne_25 : decode cX10_opensOne 25 = .ok (.iconst 1, 1) := by decide +kernel
theorem dX10_opensOne_26 : decode cX10_opensOne 26 = .ok (.ireturn, 1) := by decide +kernel
theorem dX10_between_0 : decode cX10_between 0 = .ok (.aload_n 0, 1) := by decide +kernel
theorem dX10_between_1 : decode cX10_between 1 = .ok (.iload_n 1, 1) := by decide +kernel
theorem dX10_between_2 : decode cX10_between 2 = .ok (.invokestatic 151, 3) := by decide +kernel
theorem dX10_between_5 : decode cX10_between 5 = .ok (.iconst 4, 1) := by decide +kernel
theorem dX10_between_6 : decode cX10_between 6 = .ok (.if_icmp .ne 7, 3) := by decide +kernel
theorem dX10_between_9 : decode cX10_between 9 = .ok (.iconst 5, 1) := by decide +kernel
theorem dX10_between_10 : decode cX10_between 10 = .ok (.goto 7, 3) := by decide +kernel
theorem dX10_between_13 : decode cX10_between 13 = .ok (.iload_n 1, 1) := by decide +kernel
theorem dX10_between_14 : decode cX10_between 14 = .ok (.invokestatic 151, 3) := by decide +kernel
theorem dX10_between_17 : decode cX10_between 17 = .ok (.invokevirtual 165, 3) := by decide +kernel
theorem dX10_between_20 : decode cX10_between 20 = .ok (.iload_n 1, 1) := by decide +kernel
theorem dX10_between_21 : decode cX10_between 21 = .ok (.invokestatic 151, 3) := by decide +kernel
theorem dX10_between_24 : decode cX10_between 24 = .ok (.iconst 4, 1) := by decide +kernel
theorem dX10_between_25 : decode cX10_between 25 = .ok (.if_icmp .ne 30, 3) := by decide +kernel
theorem dX10_between_28 : decode cX10_between 28 = .ok (.aload_n 0, 1) := by decide +kernel
theorem dX10_between_29 : decode cX10_between 29 = .ok (.getfield 148, 3) := by decide +kernel
theorem dX10_between_32 : decode cX10_between 32 = .ok (.ifCond .le 23, 3) := by decide +kernel
theorem dX10_between_35 : decode cX10_between 35 = .ok (.aload_n 0, 1) := by decide +kernel
theorem dX10_between_36 : decode cX10_between 36 = .ok (.getfield 65, 3) := by decide +kernel
theorem dX10_between_39 : decode cX10_between 39 = .ok (.aload_n 0, 1) := by decide +kernel
theorem dX10_between_40 : decode cX10_between 40 = .ok (.getfield 148, 3) := by decide +kernel
theorem dX10_between_43 : decode cX10_between 43 = .ok (.iconst 1, 1) := by decide +kernel
theorem dX10_between_44 : decode cX10_between 44 = .ok (.isub, 1) := by decide +kernel
theorem dX10_between_45 : decode cX10_between 45 = .ok (.iaload, 1) := by decide +kernel
theorem dX10_between_46 : decode cX10_between 46 = .ok (.invokestatic 151, 3) := by decide +kernel
theorem dX10_between_49 : decode cX10_between 49 = .ok (.iconst 4, 1) := by decide +kernel
theorem dX10_between_50 : decode cX10_between 50 = .ok (.if_icmp .ne 5, 3) := by decide +kernel
theorem dX10_between_53 : decode cX10_between 53 = .ok (.iconst 0, 1) := by decide +kernel
theorem dX10_between_54 : decode cX10_between 54 = .ok (.ireturn, 1) := by decide +kernel
theorem dX10_between_55 : decode cX10_between 55 = .ok (.aload_n 0, 1) := by decide +kernel
theorem dX10_between_56 : decode cX10_between 56 = .ok (.iload_n 1, 1) := by decide +kernel
theorem dX10_between_57 : decode cX10_between 57 = .ok (.invokevirtual 162, 3) := by decide +kernel
theorem dX10_between_60 : decode cX10_between 60 = .ok (.iconst 1, 1) := by decide +kernel
theorem dX10_between_61 : decode cX10_between 61 = .ok (.ireturn, 1) := by decide +kernel
theorem dX10_signOf_0 : decode cX10_signOf 0 = .ok (.aload_n 0, 1) := by decide +kernel
theorem dX10_signOf_1 : decode cX10_signOf 1 = .ok (.getfield 135, 3) := by decide +kernel
theorem dX10_signOf_4 : decode cX10_signOf 4 = .ok (.iconst 4, 1) := by decide +kernel
theorem dX10_signOf_5 : decode cX10_signOf 5 = .ok (.if_icmp .ne 8, 3) := by decide +kernel
theorem dX10_signOf_8 : decode cX10_signOf 8 = .ok (.bipush 11, 2) := by decide +kernel
theorem dX10_signOf_10 : decode cX10_signOf 10 = .ok (.goto 87, 3) := by decide +kernel
theorem dX10_signOf_13 : decode cX10_signOf 13 = .ok (.aload_n 0, 1) := by decide +kernel
theorem dX10_signOf_14 : decode cX10_signOf 14 = .ok (.getfield 135, 3) := by decide +kernel
theorem dX10_signOf_17 : decode cX10_signOf 17 = .ok (.iconst 5, 1) := by decide +kernel
theorem dX10_signOf_18 : decode cX10_signOf 18 = .ok (.if_icmp .ne 8, 3) := by decide +kernel
theorem dX10_signOf_21 : decode cX10_signOf 21 = .ok (.bipush 12, 2) := by decide +kernel
theorem dX10_signOf_23 : decode cX10_signOf 23 = .ok (.goto 74, 3) := by decide +kernel
theorem dX10_signOf_26 : decode cX10_signOf 26 = .ok (.aload_n 0, 1) := by decide +kernel
theorem dX10_signOf_27 : decode cX10_signOf 27 = .ok (.getfield 135, 3) := by decide +kernel
theorem dX10_signOf_30 : decode cX10_signOf 30 = .ok (.bipush 60, 2) := by decide +kernel
theorem dX10_signOf_32 : decode cX10_signOf 32 = .ok (.if_icmp .ne 8, 3) := by decide +kernel
theorem dX10_signOf_35 : decode cX10_signOf 35 = .ok (.bipush 14, 2) := by decide +kernel
theorem dX10_signOf_37 : decode cX10_signOf 37 = .ok (.goto 60, 3) := by decide +kernel
theorem dX10_signOf_40 : decode cX10_signOf 40 = .ok (.aload_n 0, 1) := by decide +kernel
theorem dX10_signOf_41 : decode cX10_signOf 41 = .ok (.getfield 135, 3) := by decide +kernel
theorem dX10_signOf_44 : decode cX10_signOf 44 = .ok (.bipush 61, 2) := by decide +kernel
theorem dX10_signOf_46 : decode cX10_signOf 46 = .ok (.if_icmp .ne 8, 3) := by decide +kernel
theorem dX10_signOf_49 : decode cX10_signOf 49 = .ok (.bipush 15, 2) := by decide +kernel
theorem dX10_signOf_51 : decode cX10_signOf 51 = .ok (.goto 46, 3) := by decide +kernel
theorem dX10_signOf_54 : decode cX10_signOf 54 = .ok (.aload_n 0, 1) := by decide +kernel
theorem dX10_signOf_55 : decode cX10_signOf 55 = .ok (.getfield 135, 3) := by decide +kernel
theorem dX10_signOf_58 : decode cX10_signOf 58 = .ok (.bipush 43, 2) := by decide +kernel
theorem dX10_signOf_60 : decode cX10_signOf 60 = .ok (.if_icmp .ne 8, 3) := by decide +kernel
theorem dX10_signOf_63 : decode cX10_signOf 63 = .ok (.bipush 16, 2) := by decide +kernel
theorem dX10_signOf_65 : decode cX10_signOf 65 = .ok (.goto 32, 3) := by decide +kernel
theorem dX10_signOf_68 : decode cX10_signOf 68 = .ok (.aload_n 0, 1) := by decide +kernel
theorem dX10_signOf_69 : decode cX10_signOf 69 = .ok (.getfield 135, 3) := by decide +kernel
theorem dX10_signOf_72 : decode cX10_signOf 72 = .ok (.bipush 45, 2) := by decide +kernel
theorem dX10_signOf_74 : decode cX10_signOf 74 = .ok (.if_icmp .ne 8, 3) := by decide +kernel
theorem dX10_signOf_77 : decode cX10_signOf 77 = .ok (.bipush 17, 2) := by decide +kernel
theorem dX10_signOf_79 : decode cX10_signOf 79 = .ok (.goto 18, 3) := by decide +kernel
theorem dX10_signOf_82 : decode cX10_signOf 82 = .ok (.aload_n 0, 1) := by decide +kernel
theorem dX10_signOf_83 : decode cX10_signOf 83 = .ok (.getfield 135, 3) := by decide +kernel
theorem dX10_signOf_86 : decode cX10_signOf 86 = .ok (.bipush 42, 2) := by decide +kernel
theorem dX10_signOf_88 : decode cX10_signOf 88 = .ok (.if_icmp .ne 8, 3) := by decide +kernel
theorem dX10_signOf_91 : decode cX10_signOf 91 = .ok (.bipush 18, 2) := by decide +kernel
theorem dX10_signOf_93 : decode cX10_signOf 93 = .ok (.goto 4, 3) := by decide +kernel
theorem dX10_signOf_96 : decode cX10_signOf 96 = .ok (.iconst (-1), 1) := by decide +kernel
theorem dX10_signOf_97 : decode cX10_signOf 97 = .ok (.ireturn, 1) := by decide +kernel
theorem dX10_eRead_0 : decode cX10_eRead 0 = .ok (.aload_n 0, 1) := by decide +kernel
theorem dX10_eRead_1 : decode cX10_eRead 1 = .ok (.iconst 0, 1) := by decide +kernel
theorem dX10_eRead_2 : decode cX10_eRead 2 = .ok (.putfield 148, 3) := by decide +kernel
theorem dX10_eRead_5 : decode cX10_eRead 5 = .ok (.aload_n 0, 1) := by decide +kernel
theorem dX10_eRead_6 : decode cX10_eRead 6 = .ok (.iconst 0, 1) := by decide +kernel
theorem dX10_eRead_7 : decode cX10_eRead 7 = .ok (.putfield 155, 3) := by decide +kernel
theorem dX10_eRead_10 : decode cX10_eRead 10 = .ok (.iconst 1, 1) := by decide +kernel
theorem dX10_eRead_11 : decode cX10_eRead 11 = .ok (.istore_n 1, 1) := by decide +kernel
theorem dX10_eRead_12 : decode cX10_eRead 12 = .ok (.iconst 1, 1) := by decide +kernel
theorem dX10_eRead_13 : decode cX10_eRead 13 = .ok (.istore_n 2, 1) := by decide +kernel
theorem dX10_eRead_14 : decode cX10_eRead 14 = .ok (.aload_n 0, 1) := by decide +kernel
theorem dX10_eRead_15 : decode cX10_eRead 15 = .ok (.invokevirtual 168, 3) := by decide +kernel
theorem dX10_eRead_18 : decode cX10_eRead 18 = .ok (.iload_n 1, 1) := by decide +kernel
theorem dX10_eRead_19 : decode cX10_eRead 19 = .ok (.ifCond .eq 131, 3) := by decide +kernel
theorem dX10_eRead_22 : decode cX10_eRead 22 = .ok (.aload_n 0, 1) := by decide +kernel
theorem dX10_eRead_23 : decode cX10_eRead 23 = .ok (.getfield 135, 3) := by decide +kernel
theorem dX10_eRead_26 : decode cX10_eRead 26 = .ok (.iconst 1, 1) := by decide +kernel
theorem dX10_eRead_27 : decode cX10_eRead 27 = .ok (.if_icmp .eq 11, 3) := by decide +kernel
theorem dX10_eRead_30 : decode cX10_eRead 30 = .ok (.aload_n 0, 1) := by decide +kernel
theorem dX10_eRead_31 : decode cX10_eRead 31 = .ok (.getfield 135, 3) := by decide +kernel
theorem dX10_eRead_34 : decode cX10_eRead 34 = .ok (.iconst 2, 1) := by decide +kernel
theorem dX10_eRead_35 : decode cX10_eRead 35 = .ok (.if_icmp .ne 40, 3) := by decide +kernel
theorem dX10_eRead_38 : decode cX10_eRead 38 = .ok (.aload_n 0, 1) := by decide +kernel
theorem dX10_eRead_39 : decode cX10_eRead 39 = .ok (.aload_n 0, 1) := by decide +kernel
theorem dX10_eRead_40 : decode cX10_eRead 40 = .ok (.getfield 135, 3) := by decide +kernel
theorem dX10_eRead_43 : decode cX10_eRead 43 = .ok (.iconst 1, 1) := by decide +kernel
theorem dX10_eRead_44 : decode cX10_eRead 44 = .ok (.if_icmp .ne 13, 3) := by decide +kernel
theorem dX10_eRead_47 : decode cX10_eRead 47 = .ok (.ldc 171, 2) := by decide +kernel
theorem dX10_eRead_49 : decode cX10_eRead 49 = .ok (.aload_n 0, 1) := by decide +kernel
theorem dX10_eRead_50 : decode cX10_eRead 50 = .ok (.getfield 138, 3) := by decide +kernel
theorem dX10_eRead_53 : decode cX10_eRead 53 = .ok (.iadd, 1) := by decide +kernel
theorem dX10_eRead_54 : decode cX10_eRead 54 = .ok (.goto 7, 3) := by decide +kernel
theorem dX10_eRead_57 : decode cX10_eRead 57 = .ok (.aload_n 0, 1) := by decide +kernel
theorem dX10_eRead_58 : decode cX10_eRead 58 = .ok (.getfield 138, 3) := by decide +kernel
theorem dX10_eRead_61 : decode cX10_eRead 61 = .ok (.invokevirtual 158, 3) := by decide +kernel
theorem dX10_eRead_64 : decode cX10_eRead 64 = .ok (.aload_n 0, 1) := by decide +kernel
theorem dX10_eRead_65 : decode cX10_eRead 65 = .ok (.bipush 7, 2) := by decide +kernel
theorem dX10_eRead_67 : decode cX10_eRead 67 = .ok (.invokevirtual 165, 3) := by decide +kernel
theorem dX10_eRead_70 : decode cX10_eRead 70 = .ok (.iconst 0, 1) := by decide +kernel
theorem dX10_eRead_71 : decode cX10_eRead 71 = .ok (.istore_n 1, 1) := by decide +kernel
theorem dX10_eRead_72 : decode cX10_eRead 72 = .ok (.goto (-58), 3) := by decide +kernel
theorem dX10_eRead_75 : decode cX10_eRead 75 = .ok (.aload_n 0, 1) := by decide +kernel
theorem dX10_eRead_76 : decode cX10_eRead 76 = .ok (.getfield 135, 3) := by decide +kernel
theorem dX10_eRead_79 : decode cX10_eRead 79 = .ok (.bipush 6, 2) := by decide +kernel
theorem dX10_eRead_81 : decode cX10_eRead 81 = .ok (.if_icmp .ne 18, 3) := by decide +kernel
theorem dX10_eRead_84 : decode cX10_eRead 84 = .ok (.iload_n 2, 1) := by decide +kernel
theorem dX10_eRead_85 : decode cX10_eRead 85 = .ok (.ifCond .eq 14, 3) := by decide +kernel
theorem dX10_eRead_88 : decode cX10_eRead 88 = .ok (.aload_n 0, 1) := by decide +kernel
theorem dX10_eRead_89 : decode cX10_eRead 89 = .ok (.bipush 13, 2) := by decide +kernel
theorem dX10_eRead_91 : decode cX10_eRead 91 = .ok (.invokevirtual 172, 3) := by decide +kernel
theorem dX10_eRead_94 : decode cX10_eRead 94 = .ok (.ifCond .ne (-80), 3) := by decide +kernel
theorem dX10_eRead_97 : decode cX10_eRead 97 = .ok (.iconst 0, 1) := by decide +kernel
theorem dX10_eRead_98 : decode cX10_eRead 98 = .ok (.ireturn, 1) := by decide +kernel
theorem dX10_eRead_99 : decode cX10_eRead 99 = .ok (.aload_n 0, 1) := by decide +kernel
theorem dX10_eRead_100 : decode cX10_eRead 100 = .ok (.getfield 135, 3) := by decide +kernel
theorem dX10_eRead_103 : decode cX10_eRead 103 = .ok (.bipush 45, 2) := by decide +kernel
theorem dX10_eRead_105 : decode cX10_eRead 105 = .ok (.if_icmp .ne 19, 3) := by decide +kernel
theorem dX10_eRead_108 : decode cX10_eRead 108 = .ok (.aload_n 0, 1) := by decide +kernel
theorem dX10_eRead_109 : decode cX10_eRead 109 = .ok (.bipush 19, 2) := by decide +kernel
theorem dX10_eRead_111 : decode cX10_eRead 111 = .ok (.invokevirtual 172, 3) := by decide +kernel
theorem dX10_eRead_114 : decode cX10_eRead 114 = .ok (.ifCond .ne 5, 3) := by decide +kernel
theorem dX10_eRead_117 : decode cX10_eRead 117 = .ok (.iconst 0, 1) := by decide +kernel
theorem dX10_eRead_118 : decode cX10_eRead 118 = .ok (.ireturn, 1) := by decide +kernel
theorem dX10_eRead_119 : decode cX10_eRead 119 = .ok (.iconst 0, 1) := by decide +kernel
theorem dX10_eRead_120 : decode cX10_eRead 120 = .ok (.istore_n 2, 1) := by decide +kernel
theorem dX10_eRead_121 : decode cX10_eRead 121 = .ok (.goto (-107), 3) := by decide +kernel
theorem dX10_eRead_124 : decode cX10_eRead 124 = .ok (.aload_n 0, 1) := by decide +kernel
theorem dX10_eRead_125 : decode cX10_eRead 125 = .ok (.getfield 135, 3) := by decide +kernel
theorem dX10_eRead_128 : decode cX10_eRead 128 = .ok (.bipush 40, 2) := by decide +kernel
theorem dX10_eRead_130 : decode cX10_eRead 130 = .ok (.if_icmp .ne 18, 3) := by decide +kernel
theorem dX10_eRead_133 : decode cX10_eRead 133 = .ok (.aload_n 0, 1) := by decide +kernel
theorem dX10_eRead_134 : decode cX10_eRead 134 = .ok (.iconst 0, 1) := by decide +kernel
theorem dX10_eRead_135 : decode cX10_eRead 135 = .ok (.invokevirtual 172, 3) := by decide +kernel
theorem dX10_eRead_138 : decode cX10_eRead 138 = .ok (.ifCond .ne 5, 3) := by decide +kernel
theorem dX10_eRead_141 : decode cX10_eRead 141 = .ok (.iconst 0, 1) := by decide +kernel
theorem dX10_eRead_142 : decode cX10_eRead 142 = .ok (.ireturn, 1) := by decide +kernel
theorem dX10_eRead_143 : decode cX10_eRead 143 = .ok (.iconst 1, 1) := by decide +kernel
theorem dX10_eRead_144 : decode cX10_eRead 144 = .ok (.istore_n 2, 1) := by decide +kernel
theorem dX10_eRead_145 : decode cX10_eRead 145 = .ok (.goto (-131), 3) := by decide +kernel
theorem dX10_eRead_148 : decode cX10_eRead 148 = .ok (.iconst 0, 1) := by decide +kernel
theorem dX10_eRead_149 : decode cX10_eRead 149 = .ok (.ireturn, 1) := by decide +kernel
theorem dX10_eRead_150 : decode cX10_eRead 150 = .ok (.aload_n 0, 1) := by decide +kernel
theorem dX10_eRead_151 : decode cX10_eRead 151 = .ok (.getfield 135, 3) := by decide +kernel
theorem dX10_eRead_154 : decode cX10_eRead 154 = .ok (.bipush 59, 2) := by decide +kernel
theorem dX10_eRead_156 : decode cX10_eRead 156 = .ok (.if_icmp .ne 21, 3) := by decide +kernel
theorem dX10_eRead_159 : decode cX10_eRead 159 = .ok (.aload_n 0, 1) := by decide +kernel
theorem dX10_eRead_160 : decode cX10_eRead 160 = .ok (.iconst 1, 1) := by decide +kernel
theorem dX10_eRead_161 : decode cX10_eRead 161 = .ok (.invokevirtual 165, 3) := by decide +kernel
theorem dX10_eRead_164 : decode cX10_eRead 164 = .ok (.aload_n 0, 1) := by decide +kernel
theorem dX10_eRead_165 : decode cX10_eRead 165 = .ok (.getfield 148, 3) := by decide +kernel
theorem dX10_eRead_168 : decode cX10_eRead 168 = .ok (.ifCond .ne 7, 3) := by decide +kernel
theorem dX10_eRead_171 : decode cX10_eRead 171 = .ok (.iconst 1, 1) := by decide +kernel
theorem dX10_eRead_172 : decode cX10_eRead 172 = .ok (.goto 4, 3) := by decide +kernel
theorem dX10_eRead_175 : decode cX10_eRead 175 = .ok (.iconst 0, 1) := by decide +kernel
theorem dX10_eRead_176 : decode cX10_eRead 176 = .ok (.ireturn, 1) := by decide +kernel
theorem dX10_eRead_177 : decode cX10_eRead 177 = .ok (.aload_n 0, 1) := by decide +kernel
theorem dX10_eRead_178 : decode cX10_eRead 178 = .ok (.getfield 135, 3) := by decide +kernel
theorem dX10_eRead_181 : decode cX10_eRead 181 = .ok (.bipush 41, 2) := by decide +kernel
theorem dX10_eRead_183 : decode cX10_eRead 183 = .ok (.if_icmp .ne 46, 3) := by decide +kernel
theorem dX10_eRead_186 : decode cX10_eRead 186 = .ok (.aload_n 0, 1) := by decide +kernel
theorem dX10_eRead_187 : decode cX10_eRead 187 = .ok (.iconst 1, 1) := by decide +kernel
theorem dX10_eRead_188 : decode cX10_eRead 188 = .ok (.invokevirtual 165, 3) := by decide +kernel
theorem dX10_eRead_191 : decode cX10_eRead 191 = .ok (.aload_n 0, 1) := by decide +kernel
theorem dX10_eRead_192 : decode cX10_eRead 192 = .ok (.getfield 148, 3) := by decide +kernel
theorem dX10_eRead_195 : decode cX10_eRead 195 = .ok (.ifCond .ne 5, 3) := by decide +kernel
theorem dX10_eRead_198 : decode cX10_eRead 198 = .ok (.iconst 0, 1) := by decide +kernel
theorem dX10_eRead_199 : decode cX10_eRead 199 = .ok (.ireturn, 1) := by decide +kernel
theorem dX10_eRead_200 : decode cX10_eRead 200 = .ok (.aload_n 0, 1) := by decide +kernel
theorem dX10_eRead_201 : decode cX10_eRead 201 = .ok (.dup, 1) := by decide +kernel
theorem dX10_eRead_202 : decode cX10_eRead 202 = .ok (.getfield 148, 3) := by decide +kernel
theorem dX10_eRead_205 : decode cX10_eRead 205 = .ok (.iconst 1, 1) := by decide +kernel
theorem dX10_eRead_206 : decode cX10_eRead 206 = .ok (.isub, 1) := by decide +kernel
theorem dX10_eRead_207 : decode cX10_eRead 207 = .ok (.putfield 148, 3) := by decide +kernel
theorem dX10_eRead_210 : decode cX10_eRead 210 = .ok (.aload_n 0, 1) := by decide +kernel
theorem dX10_eRead_211 : decode cX10_eRead 211 = .ok (.dup, 1) := by decide +kernel
theorem dX10_eRead_212 : decode cX10_eRead 212 = .ok (.getfield 155, 3) := by decide +kernel
theorem dX10_eRead_215 : decode cX10_eRead 215 = .ok (.iconst 1, 1) := by decide +kernel
theorem dX10_eRead_216 : decode cX10_eRead 216 = .ok (.isub, 1) := by decide +kernel
theorem dX10_eRead_217 : decode cX10_eRead 217 = .ok (.putfield 155, 3) := by decide +kernel
theorem dX10_eRead_220 : decode cX10_eRead 220 = .ok (.aload_n 0, 1) := by decide +kernel
theorem dX10_eRead_221 : decode cX10_eRead 221 = .ok (.bipush 7, 2) := by decide +kernel
theorem dX10_eRead_223 : decode cX10_eRead 223 = .ok (.invokevirtual 165, 3) := by decide +kernel
theorem dX10_eRead_226 : decode cX10_eRead 226 = .ok (.goto (-212), 3) := by decide +kernel
theorem dX10_eRead_229 : decode cX10_eRead 229 = .ok (.aload_n 0, 1) := by decide +kernel
theorem dX10_eRead_230 : decode cX10_eRead 230 = .ok (.invokevirtual 175, 3) := by decide +kernel
theorem dX10_eRead_233 : decode cX10_eRead 233 = .ok (.istore_n 3, 1) := by decide +kernel
theorem dX10_eRead_234 : decode cX10_eRead 234 = .ok (.iload_n 3, 1) := by decide +kernel
theorem dX10_eRead_235 : decode cX10_eRead 235 = .ok (.iconst (-1), 1) := by decide +kernel
theorem dX10_eRead_236 : decode cX10_eRead 236 = .ok (.if_icmp .eq 11, 3) := by decide +kernel
theorem dX10_eRead_239 : decode cX10_eRead 239 = .ok (.aload_n 0, 1) := by decide +kernel
theorem dX10_eRead_240 : decode cX10_eRead 240 = .ok (.iload_n 3, 1) := by decide +kernel
theorem dX10_eRead_241 : decode cX10_eRead 241 = .ok (.invokevirtual 178, 3) := by decide +kernel
theorem dX10_eRead_244 : decode cX10_eRead 244 = .ok (.ifCond .ne 5, 3) := by decide +kernel
theorem dX10_eRead_247 : decode cX10_eRead 247 = .ok (.iconst 0, 1) := by decide +kernel
theorem dX10_eRead_248 : decode cX10_eRead 248 = .ok (.ireturn, 1) := by decide +kernel
theorem dX10_eRead_249 : decode cX10_eRead 249 = .ok (.iconst 1, 1) := by decide +kernel
theorem dX10_eRead_250 : decode cX10_eRead 250 = .ok (.istore_n 1, 1) := by decide +kernel
theorem dX10_eRead_251 : decode cX10_eRead 251 = .ok (.iload_n 3, 1) := by decide +kernel
theorem dX10_eRead_252 : decode cX10_eRead 252 = .ok (.bipush 12, 2) := by decide +kernel
theorem dX10_eRead_254 : decode cX10_eRead 254 = .ok (.if_icmp .gt 7, 3) := by decide +kernel
theorem dX10_eRead_257 : decode cX10_eRead 257 = .ok (.iconst 1, 1) := by decide +kernel
theorem dX10_eRead_258 : decode cX10_eRead 258 = .ok (.goto 4, 3) := by decide +kernel
theorem dX10_eRead_261 : decode cX10_eRead 261 = .ok (.iconst 0, 1) := by decide +kernel
theorem dX10_eRead_262 : decode cX10_eRead 262 = .ok (.istore_n 2, 1) := by decide +kernel
theorem dX10_eRead_263 : decode cX10_eRead 263 = .ok (.goto (-249), 3) := by decide +kernel
theorem dX10_text_0 : decode cX10_text 0 = .ok (.aload_n 0, 1) := by decide +kernel
theorem dX10_text_1 : decode cX10_text 1 = .ok (.getfield 120, 3) := by decide +kernel
theorem dX10_text_4 : decode cX10_text 4 = .ok (.bipush 6, 2) := by decide +kernel
theorem dX10_text_6 : decode cX10_text 6 = .ok (.if_icmp .ne 6, 3) := by decide +kernel
theorem dX10_text_9 : decode cX10_text 9 = .ok (.bipush (-4), 2) := by decide +kernel
theorem dX10_text_11 : decode cX10_text 11 = .ok (.ireturn, 1) := by decide +kernel
theorem dX10_text_12 : decode cX10_text 12 = .ok (.aload_n 0, 1) := by decide +kernel
theorem dX10_text_13 : decode cX10_text 13 = .ok (.iconst 0, 1) := by decide +kernel
theorem dX10_text_14 : decode cX10_text 14 = .ok (.putfield 129, 3) := by decide +kernel
theorem dX10_text_17 : decode cX10_text 17 = .ok (.aload_n 0, 1) := by decide +kernel
theorem dX10_text_18 : decode cX10_text 18 = .ok (.iconst 0, 1) := by decide +kernel
theorem dX10_text_19 : decode cX10_text 19 = .ok (.putfield 145, 3) := by decide +kernel
theorem dX10_text_22 : decode cX10_text 22 = .ok (.iconst 1, 1) := by decide +kernel
theorem dX10_text_23 : decode cX10_text 23 = .ok (.istore_n 1, 1) := by decide +kernel
theorem dX10_text_24 : decode cX10_text 24 = .ok (.iconst 0, 1) := by decide +kernel
theorem dX10_text_25 : decode cX10_text 25 = .ok (.istore_n 2, 1) := by decide +kernel
theorem dX10_text_26 : decode cX10_text 26 = .ok (.iload_n 2, 1) := by decide +kernel
theorem dX10_text_27 : decode cX10_text 27 = .ok (.iconst 3, 1) := by decide +kernel
theorem dX10_text_28 : decode cX10_text 28 = .ok (.if_icmp .ge 73, 3) := by decide +kernel
theorem dX10_text_31 : decode cX10_text 31 = .ok (.iload_n 1, 1) := by decide +kernel
theorem dX10_text_32 : decode cX10_text 32 = .ok (.ifCond .eq 69, 3) := by decide +kernel
theorem dX10_text_35 : decode cX10_text 35 = .ok (.aload_n 0, 1) := by decide +kernel
theorem dX10_text_36 : decode cX10_text 36 = .ok (.invokevirtual 168, 3) := by decide +kernel
theorem dX10_text_39 : decode cX10_text 39 = .ok (.aload_n 0, 1) := by decide +kernel
theorem dX10_text_40 : decode cX10_text 40 = .ok (.getfield 135, 3) := by decide +kernel
theorem dX10_text_43 : decode cX10_text 43 = .ok (.iconst 3, 1) := by decide +kernel
theorem dX10_text_44 : decode cX10_text 44 = .ok (.if_icmp .ne 15, 3) := by decide +kernel
theorem dX10_text_47 : decode cX10_text 47 = .ok (.aload_n 0, 1) := by decide +kernel
theorem dX10_text_48 : decode cX10_text 48 = .ok (.getfield 138, 3) := by decide +kernel
theorem dX10_text_51 : decode cX10_text 51 = .ok (.iload_n 2, 1) := by decide +kernel
theorem dX10_text_52 : decode cX10_text 52 = .ok (.if_icmp .ne 7, 3) := by decide +kernel
theorem dX10_text_55 : decode cX10_text 55 = .ok (.iconst 1, 1) := by decide +kernel
theorem dX10_text_56 : decode cX10_text 56 = .ok (.goto 4, 3) := by decide +kernel
theorem dX10_text_59 : decode cX10_text 59 = .ok (.iconst 0, 1) := by decide +kernel
theorem dX10_text_60 : decode cX10_text 60 = .ok (.istore_n 1, 1) := by decide +kernel
theorem dX10_text_61 : decode cX10_text 61 = .ok (.aload_n 0, 1) := by decide +kernel
theorem dX10_text_62 : decode cX10_text 62 = .ok (.getfield 38, 3) := by decide +kernel
theorem dX10_text_65 : decode cX10_text 65 = .ok (.iconst 4, 1) := by decide +kernel
theorem dX10_text_66 : decode cX10_text 66 = .ok (.aload_n 0, 1) := by decide +kernel
theorem dX10_text_67 : decode cX10_text 67 = .ok (.getfield 120, 3) := by decide +kernel
theorem dX10_text_70 : decode cX10_text 70 = .ok (.imul, 1) := by decide +kernel
theorem dX10_text_71 : decode cX10_text 71 = .ok (.iload_n 2, 1) := by decide +kernel
theorem dX10_text_72 : decode cX10_text 72 = .ok (.iadd, 1) := by decide +kernel
theorem dX10_text_73 : decode cX10_text 73 = .ok (.aload_n 0, 1) := by decide +kernel
theorem dX10_text_74 : decode cX10_text 74 = .ok (.getfield 145, 3) := by decide +kernel
theorem dX10_text_77 : decode cX10_text 77 = .ok (.iastore, 1) := by decide +kernel
theorem dX10_text_78 : decode cX10_text 78 = .ok (.iload_n 1, 1) := by decide +kernel
theorem dX10_text_79 : decode cX10_text 79 = .ok (.ifCond .eq 14, 3) := by decide +kernel
theorem dX10_text_82 : decode cX10_text 82 = .ok (.aload_n 0, 1) := by decide +kernel
theorem dX10_text_83 : decode cX10_text 83 = .ok (.invokevirtual 181, 3) := by decide +kernel
theorem dX10_text_86 : decode cX10_text 86 = .ok (.ifCond .eq 7, 3) := by decide +kernel
theorem dX10_text_89 : decode cX10_text 89 = .ok (.iconst 1, 1) := by decide +kernel
theorem dX10_text_90 : decode cX10_text 90 = .ok (.goto 4, 3) := by decide +kernel
theorem dX10_text_93 : decode cX10_text 93 = .ok (.iconst 0, 1) := by decide +kernel
theorem dX10_text_94 : decode cX10_text 94 = .ok (.istore_n 1, 1) := by decide +kernel
theorem dX10_text_95 : decode cX10_text 95 = .ok (.iinc 2 1, 3) := by decide +kernel
theorem dX10_text_98 : decode cX10_text 98 = .ok (.goto (-72), 3) := by decide +kernel
theorem dX10_text_101 : decode cX10_text 101 = .ok (.iload_n 1, 1) := by decide +kernel
theorem dX10_text_102 : decode cX10_text 102 = .ok (.ifCond .eq 20, 3) := by decide +kernel
theorem dX10_text_105 : decode cX10_text 105 = .ok (.aload_n 0, 1) := by decide +kernel
theorem dX10_text_106 : decode cX10_text 106 = .ok (.invokevirtual 168, 3) := by decide +kernel
theorem dX10_text_109 : decode cX10_text 109 = .ok (.aload_n 0, 1) := by decide +kernel
theorem dX10_text_110 : decode cX10_text 110 = .ok (.getfield 135, 3) := by decide +kernel
theorem dX10_text_113 : decode cX10_text 113 = .ok (.ifCond .ne 7, 3) := by decide +kernel
theorem dX10_text_116 : decode cX10_text 116 = .ok (.iconst 1, 1) := by decide +kernel
theorem dX10_text_117 : decode cX10_text 117 = .ok (.goto 4, 3) := by decide +kernel
theorem dX10_text_120 : decode cX10_text 120 = .ok (.iconst 0, 1) := by decide +kernel
theorem dX10_text_121 : decode cX10_text 121 = .ok (.istore_n 1, 1) := by decide +kernel
theorem dX10_text_122 : decode cX10_text 122 = .ok (.aload_n 0, 1) := by decide +kernel
theorem dX10_text_123 : decode cX10_text 123 = .ok (.getfield 38, 3) := by decide +kernel
theorem dX10_text_126 : decode cX10_text 126 = .ok (.iconst 4, 1) := by decide +kernel
theorem dX10_text_127 : decode cX10_text 127 = .ok (.aload_n 0, 1) := by decide +kernel
theorem dX10_text_128 : decode cX10_text 128 = .ok (.getfield 120, 3) := by decide +kernel
theorem dX10_text_131 : decode cX10_text 131 = .ok (.imul, 1) := by decide +kernel
theorem dX10_text_132 : decode cX10_text 132 = .ok (.iconst 3, 1) := by decide +kernel
theorem dX10_text_133 : decode cX10_text 133 = .ok (.iadd, 1) := by decide +kernel
theorem dX10_text_134 : decode cX10_text 134 = .ok (.aload_n 0, 1) := by decide +kernel
theorem dX10_text_135 : decode cX10_text 135 = .ok (.getfield 145, 3) := by decide +kernel
theorem dX10_text_138 : decode cX10_text 138 = .ok (.iastore, 1) := by decide +kernel
theorem dX10_text_139 : decode cX10_text 139 = .ok (.aload_n 0, 1) := by decide +kernel
theorem dX10_text_140 : decode cX10_text 140 = .ok (.iconst 0, 1) := by decide +kernel
theorem dX10_text_141 : decode cX10_text 141 = .ok (.putfield 83, 3) := by decide +kernel
theorem dX10_text_144 : decode cX10_text 144 = .ok (.iload_n 1, 1) := by decide +kernel
theorem dX10_text_145 : decode cX10_text 145 = .ok (.ifCond .ne 11, 3) := by decide +kernel
theorem dX10_text_148 : decode cX10_text 148 = .ok (.bipush (-100), 2) := by decide +kernel
theorem dX10_text_150 : decode cX10_text 150 = .ok (.aload_n 0, 1) := by decide +kernel
theorem dX10_text_151 : decode cX10_text 151 = .ok (.getfield 132, 3) := by decide +kernel
theorem dX10_text_154 : decode cX10_text 154 = .ok (.isub, 1) := by decide +kernel
theorem dX10_text_155 : decode cX10_text 155 = .ok (.ireturn, 1) := by decide +kernel
theorem dX10_text_156 : decode cX10_text 156 = .ok (.aload_n 0, 1) := by decide +kernel
theorem dX10_text_157 : decode cX10_text 157 = .ok (.dup, 1) := by decide +kernel
theorem dX10_text_158 : decode cX10_text 158 = .ok (.getfield 120, 3) := by decide +kernel
theorem dX10_text_161 : decode cX10_text 161 = .ok (.iconst 1, 1) := by decide +kernel
theorem dX10_text_162 : decode cX10_text 162 = .ok (.iadd, 1) := by decide +kernel
theorem dX10_text_163 : decode cX10_text 163 = .ok (.putfield 120, 3) := by decide +kernel
theorem dX10_text_166 : decode cX10_text 166 = .ok (.aload_n 0, 1) := by decide +kernel
theorem dX10_text_167 : decode cX10_text 167 = .ok (.getfield 120, 3) := by decide +kernel
theorem dX10_text_170 : decode cX10_text 170 = .ok (.iconst 1, 1) := by decide +kernel
theorem dX10_text_171 : decode cX10_text 171 = .ok (.isub, 1) := by decide +kernel
theorem dX10_text_172 : decode cX10_text 172 = .ok (.ireturn, 1) := by decide +kernel
theorem dX10_two_0 : decode cX10_two 0 = .ok (.iload_n 0, 1) := by decide +kernel
theorem dX10_two_1 : decode cX10_two 1 = .ok (.tableswitch 101 11 17 #[43, 57, 101, 71, 82, 93, 97], 43) := by decide +kernel
theorem dX10_two_44 : decode cX10_two 44 = .ok (.iload_n 1, 1) := by decide +kernel
theorem dX10_two_45 : decode cX10_two 45 = .ok (.ifCond .ne 7, 3) := by decide +kernel
theorem dX10_two_48 : decode cX10_two 48 = .ok (.iload_n 2, 1) := by decide +kernel
theorem dX10_two_49 : decode cX10_two 49 = .ok (.ifCond .eq 7, 3) := by decide +kernel
theorem dX10_two_52 : decode cX10_two 52 = .ok (.iconst 1, 1) := by decide +kernel
theorem dX10_two_53 : decode cX10_two 53 = .ok (.goto 4, 3) := by decide +kernel
theorem dX10_two_56 : decode cX10_two 56 = .ok (.iconst 0, 1) := by decide +kernel
theorem dX10_two_57 : decode cX10_two 57 = .ok (.ireturn, 1) := by decide +kernel
theorem dX10_two_58 : decode cX10_two 58 = .ok (.iload_n 1, 1) := by decide +kernel
theorem dX10_two_59 : decode cX10_two 59 = .ok (.ifCond .eq 11, 3) := by decide +kernel
theorem dX10_two_62 : decode cX10_two 62 = .ok (.iload_n 2, 1) := by decide +kernel
theorem dX10_two_63 : decode cX10_two 63 = .ok (.ifCond .eq 7, 3) := by decide +kernel
theorem dX10_two_66 : decode cX10_two 66 = .ok (.iconst 1, 1) := by decide +kernel
theorem dX10_two_67 : decode cX10_two 67 = .ok (.goto 4, 3) := by decide +kernel
theorem dX10_two_70 : decode cX10_two 70 = .ok (.iconst 0, 1) := by decide +kernel
theorem dX10_two_71 : decode cX10_two 71 = .ok (.ireturn, 1) := by decide +kernel
theorem dX10_two_72 : decode cX10_two 72 = .ok (.iload_n 1, 1) := by decide +kernel
theorem dX10_two_73 : decode cX10_two 73 = .ok (.iload_n 2, 1) := by decide +kernel
theorem dX10_two_74 : decode cX10_two 74 = .ok (.if_icmp .ge 7, 3) := by decide +kernel
theorem dX10_two_77 : decode cX10_two 77 = .ok (.iconst 1, 1) := by decide +kernel
theorem dX10_two_78 : decode cX10_two 78 = .ok (.goto 4, 3) := by decide +kernel
theorem dX10_two_81 : decode cX10_two 81 = .ok (.iconst 0, 1) := by decide +kernel
theorem dX10_two_82 : decode cX10_two 82 = .ok (.ireturn, 1) := by decide +kernel
theorem dX10_two_83 : decode cX10_two 83 = .ok (.iload_n 1, 1) := by decide +kernel
theorem dX10_two_84 : decode cX10_two 84 = .ok (.iload_n 2, 1) := by decide +kernel
theorem dX10_two_85 : decode cX10_two 85 = .ok (.if_icmp .ne 7, 3) := by decide +kernel
theorem dX10_two_88 : decode cX10_two 88 = .ok (.iconst 1, 1) := by decide +kernel
theorem dX10_two_89 : decode cX10_two 89 = .ok (.goto 4, 3) := by decide +kernel
theorem dX10_two_92 : decode cX10_two 92 = .ok (.iconst 0, 1) := by decide +kernel
theorem dX10_two_93 : decode cX10_two 93 = .ok (.ireturn, 1) := by decide +kernel
theorem dX10_two_94 : decode cX10_two 94 = .ok (.iload_n 1, 1) := by decide +kernel
theorem dX10_two_95 : decode cX10_two 95 = .ok (.iload_n 2, 1) := by decide +kernel
theorem dX10_two_96 : decode cX10_two 96 = .ok (.iadd, 1) := by decide +kernel
theorem dX10_two_97 : decode cX10_two 97 = .ok (.ireturn, 1) := by decide +kernel
theorem dX10_two_98 : decode cX10_two 98 = .ok (.iload_n 1, 1) := by decide +kernel
theorem dX10_two_99 : decode cX10_two 99 = .ok (.iload_n 2, 1) := by decide +kernel
theorem dX10_two_100 : decode cX10_two 100 = .ok (.isub, 1) := by decide +kernel
theorem dX10_two_101 : decode cX10_two 101 = .ok (.ireturn, 1) := by decide +kernel
theorem dX10_two_102 : decode cX10_two 102 = .ok (.iload_n 1, 1) := by decide +kernel
theorem dX10_two_103 : decode cX10_two 103 = .ok (.iload_n 2, 1) := by decide +kernel
theorem dX10_two_104 : decode cX10_two 104 = .ok (.imul, 1) := by decide +kernel
theorem dX10_two_105 : decode cX10_two 105 = .ok (.ireturn, 1) := by decide +kernel
theorem dX10_worth_0 : decode cX10_worth 0 = .ok (.iconst 0, 1) := by decide +kernel
theorem dX10_worth_1 : decode cX10_worth 1 = .ok (.istore_n 2, 1) := by decide +kernel
theorem dX10_worth_2 : decode cX10_worth 2 = .ok (.aload_n 0, 1) := by decide +kernel
theorem dX10_worth_3 : decode cX10_worth 3 = .ok (.getfield 38, 3) := by decide +kernel
theorem dX10_worth_6 : decode cX10_worth 6 = .ok (.iconst 4, 1) := by decide +kernel
theorem dX10_worth_7 : decode cX10_worth 7 = .ok (.aload_n 0, 1) := by decide +kernel
theorem dX10_worth_8 : decode cX10_worth 8 = .ok (.getfield 123, 3) := by decide +kernel
theorem dX10_worth_11 : decode cX10_worth 11 = .ok (.imul, 1) := by decide +kernel
theorem dX10_worth_12 : decode cX10_worth 12 = .ok (.iload_n 1, 1) := by decide +kernel
theorem dX10_worth_13 : decode cX10_worth 13 = .ok (.iadd, 1) := by decide +kernel
theorem dX10_worth_14 : decode cX10_worth 14 = .ok (.iaload, 1) := by decide +kernel
theorem dX10_worth_15 : decode cX10_worth 15 = .ok (.istore_n 3, 1) := by decide +kernel
theorem dX10_worth_16 : decode cX10_worth 16 = .ok (.iload_n 3, 1) := by decide +kernel
theorem dX10_worth_17 : decode cX10_worth 17 = .ok (.aload_n 0, 1) := by decide +kernel
theorem dX10_worth_18 : decode cX10_worth 18 = .ok (.getfield 38, 3) := by decide +kernel
theorem dX10_worth_21 : decode cX10_worth 21 = .ok (.iconst 4, 1) := by decide +kernel
theorem dX10_worth_22 : decode cX10_worth 22 = .ok (.aload_n 0, 1) := by decide +kernel
theorem dX10_worth_23 : decode cX10_worth 23 = .ok (.getfield 123, 3) := by decide +kernel
theorem dX10_worth_26 : decode cX10_worth 26 = .ok (.imul, 1) := by decide +kernel
theorem dX10_worth_27 : decode cX10_worth 27 = .ok (.iload_n 1, 1) := by decide +kernel
theorem dX10_worth_28 : decode cX10_worth 28 = .ok (.iadd, 1) := by decide +kernel
theorem dX10_worth_29 : decode cX10_worth 29 = .ok (.iconst 1, 1) := by decide +kernel
theorem dX10_worth_30 : decode cX10_worth 30 = .ok (.iadd, 1) := by decide +kernel
theorem dX10_worth_31 : decode cX10_worth 31 = .ok (.iaload, 1) := by decide +kernel
theorem dX10_worth_32 : decode cX10_worth 32 = .ok (.if_icmp .ge 165, 3) := by decide +kernel
theorem dX10_worth_35 : decode cX10_worth 35 = .ok (.aload_n 0, 1) := by decide +kernel
theorem dX10_worth_36 : decode cX10_worth 36 = .ok (.getfield 35, 3) := by decide +kernel
theorem dX10_worth_39 : decode cX10_worth 39 = .ok (.sipush 200, 3) := by decide +kernel
theorem dX10_worth_42 : decode cX10_worth 42 = .ok (.aload_n 0, 1) := by decide +kernel
theorem dX10_worth_43 : decode cX10_worth 43 = .ok (.getfield 123, 3) := by decide +kernel
theorem dX10_worth_46 : decode cX10_worth 46 = .ok (.imul, 1) := by decide +kernel
theorem dX10_worth_47 : decode cX10_worth 47 = .ok (.iload_n 3, 1) := by decide +kernel
theorem dX10_worth_48 : decode cX10_worth 48 = .ok (.iadd, 1) := by decide +kernel
theorem dX10_worth_49 : decode cX10_worth 49 = .ok (.iaload, 1) := by decide +kernel
theorem dX10_worth_50 : decode cX10_worth 50 = .ok (.istore 4, 2) := by decide +kernel
theorem dX10_worth_52 : decode cX10_worth 52 = .ok (.iload 4, 2) := by decide +kernel
theorem dX10_worth_54 : decode cX10_worth 54 = .ok (.ldc 171, 2) := by decide +kernel
theorem dX10_worth_56 : decode cX10_worth 56 = .ok (.if_icmp .ge 10, 3) := by decide +kernel
theorem dX10_worth_59 : decode cX10_worth 59 = .ok (.iload 4, 2) := by decide +kernel
theorem dX10_worth_61 : decode cX10_worth 61 = .ok (.bipush 11, 2) := by decide +kernel
theorem dX10_worth_63 : decode cX10_worth 63 = .ok (.if_icmp .ge 37, 3) := by decide +kernel
theorem dX10_worth_66 : decode cX10_worth 66 = .ok (.aload_n 0, 1) := by decide +kernel
theorem dX10_worth_67 : decode cX10_worth 67 = .ok (.getfield 68, 3) := by decide +kernel
theorem dX10_worth_70 : decode cX10_worth 70 = .ok (.iload_n 2, 1) := by decide +kernel
theorem dX10_worth_71 : decode cX10_worth 71 = .ok (.iload 4, 2) := by decide +kernel
theorem dX10_worth_73 : decode cX10_worth 73 = .ok (.bipush 11, 2) := by decide +kernel
theorem dX10_worth_75 : decode cX10_worth 75 = .ok (.if_icmp .ge 13, 3) := by decide +kernel
theorem dX10_worth_78 : decode cX10_worth 78 = .ok (.aload_n 0, 1) := by decide +kernel
theorem dX10_worth_79 : decode cX10_worth 79 = .ok (.getfield 71, 3) := by decide +kernel
theorem dX10_worth_82 : decode cX10_worth 82 = .ok (.iload 4, 2) := by decide +kernel
theorem dX10_worth_84 : decode cX10_worth 84 = .ok (.iaload, 1) := by decide +kernel
theorem dX10_worth_85 : decode cX10_worth 85 = .ok (.goto 8, 3) := by decide +kernel
theorem dX10_worth_88 : decode cX10_worth 88 = .ok (.iload 4, 2) := by decide +kernel
theorem dX10_worth_90 : decode cX10_worth 90 = .ok (.ldc 171, 2) := by decide +kernel
theorem dX10_worth_92 : decode cX10_worth 92 = .ok (.isub, 1) := by decide +kernel
theorem dX10_worth_93 : decode cX10_worth 93 = .ok (.iastore, 1) := by decide +kernel
theorem dX10_worth_94 : decode cX10_worth 94 = .ok (.iinc 2 1, 3) := by decide +kernel
theorem dX10_worth_97 : decode cX10_worth 97 = .ok (.goto 94, 3) := by decide +kernel
theorem dX10_worth_100 : decode cX10_worth 100 = .ok (.iload 4, 2) := by decide +kernel
theorem dX10_worth_102 : decode cX10_worth 102 = .ok (.bipush 13, 2) := by decide +kernel
theorem dX10_worth_104 : decode cX10_worth 104 = .ok (.if_icmp .ne 30, 3) := by decide +kernel
theorem dX10_worth_107 : decode cX10_worth 107 = .ok (.aload_n 0, 1) := by decide +kernel
theorem dX10_worth_108 : decode cX10_worth 108 = .ok (.getfield 68, 3) := by decide +kernel
theorem dX10_worth_111 : decode cX10_worth 111 = .ok (.iload_n 2, 1) := by decide +kernel
theorem dX10_worth_112 : decode cX10_worth 112 = .ok (.iconst 1, 1) := by decide +kernel
theorem dX10_worth_113 : decode cX10_worth 113 = .ok (.isub, 1) := by decide +kernel
theorem dX10_worth_114 : decode cX10_worth 114 = .ok (.aload_n 0, 1) := by decide +kernel
theorem dX10_worth_115 : decode cX10_worth 115 = .ok (.getfield 68, 3) := by decide +kernel
theorem dX10_worth_118 : decode cX10_worth 118 = .ok (.iload_n 2, 1) := by decide +kernel
theorem dX10_worth_119 : decode cX10_worth 119 = .ok (.iconst 1, 1) := by decide +kernel
theorem dX10_worth_120 : decode cX10_worth 120 = .ok (.isub, 1) := by decide +kernel
theorem dX10_worth_121 : decode cX10_worth 121 = .ok (.iaload, 1) := by decide +kernel
theorem dX10_worth_122 : decode cX10_worth 122 = .ok (.ifCond .ne 7, 3) := by decide +kernel
theorem dX10_worth_125 : decode cX10_worth 125 = .ok (.iconst 1, 1) := by decide +kernel
theorem dX10_worth_126 : decode cX10_worth 126 = .ok (.goto 4, 3) := by decide +kernel
theorem dX10_worth_129 : decode cX10_worth 129 = .ok (.iconst 0, 1) := by decide +kernel
theorem dX10_worth_130 : decode cX10_worth 130 = .ok (.iastore, 1) := by decide +kernel
theorem dX10_worth_131 : decode cX10_worth 131 = .ok (.goto 60, 3) := by decide +kernel
theorem dX10_worth_134 : decode cX10_worth 134 = .ok (.iload 4, 2) := by decide +kernel
theorem dX10_worth_136 : decode cX10_worth 136 = .ok (.bipush 19, 2) := by decide +kernel
theorem dX10_worth_138 : decode cX10_worth 138 = .ok (.if_icmp .ne 23, 3) := by decide +kernel
theorem dX10_worth_141 : decode cX10_worth 141 = .ok (.aload_n 0, 1) := by decide +kernel
theorem dX10_worth_142 : decode cX10_worth 142 = .ok (.getfield 68, 3) := by decide +kernel
theorem dX10_worth_145 : decode cX10_worth 145 = .ok (.iload_n 2, 1) := by decide +kernel
theorem dX10_worth_146 : decode cX10_worth 146 = .ok (.iconst 1, 1) := by decide +kernel
theorem dX10_worth_147 : decode cX10_worth 147 = .ok (.isub, 1) := by decide +kernel
theorem dX10_worth_148 : decode cX10_worth 148 = .ok (.aload_n 0, 1) := by decide +kernel
theorem dX10_worth_149 : decode cX10_worth 149 = .ok (.getfield 68, 3) := by decide +kernel
theorem dX10_worth_152 : decode cX10_worth 152 = .ok (.iload_n 2, 1) := by decide +kernel
theorem dX10_worth_153 : decode cX10_worth 153 = .ok (.iconst 1, 1) := by decide +kernel
theorem dX10_worth_154 : decode cX10_worth 154 = .ok (.isub, 1) := by decide +kernel
theorem dX10_worth_155 : decode cX10_worth 155 = .ok (.iaload, 1) := by decide +kernel
theorem dX10_worth_156 : decode cX10_worth 156 = .ok (.ineg, 1) := by decide +kernel
theorem dX10_worth_157 : decode cX10_worth 157 = .ok (.iastore, 1) := by decide +kernel
theorem dX10_worth_158 : decode cX10_worth 158 = .ok (.goto 33, 3) := by decide +kernel
theorem dX10_worth_161 : decode cX10_worth 161 = .ok (.iinc 2 (-1), 3) := by decide +kernel
theorem dX10_worth_164 : decode cX10_worth 164 = .ok (.aload_n 0, 1) := by decide +kernel
theorem dX10_worth_165 : decode cX10_worth 165 = .ok (.getfield 68, 3) := by decide +kernel
theorem dX10_worth_168 : decode cX10_worth 168 = .ok (.iload_n 2, 1) := by decide +kernel
theorem dX10_worth_169 : decode cX10_worth 169 = .ok (.iconst 1, 1) := by decide +kernel
theorem dX10_worth_170 : decode cX10_worth 170 = .ok (.isub, 1) := by decide +kernel
theorem dX10_worth_171 : decode cX10_worth 171 = .ok (.iload 4, 2) := by decide +kernel
theorem dX10_worth_173 : decode cX10_worth 173 = .ok (.aload_n 0, 1) := by decide +kernel
theorem dX10_worth_174 : decode cX10_worth 174 = .ok (.getfield 68, 3) := by decide +kernel
theorem dX10_worth_177 : decode cX10_worth 177 = .ok (.iload_n 2, 1) := by decide +kernel
theorem dX10_worth_178 : decode cX10_worth 178 = .ok (.iconst 1, 1) := by decide +kernel
theorem dX10_worth_179 : decode cX10_worth 179 = .ok (.isub, 1) := by decide +kernel
theorem dX10_worth_180 : decode cX10_worth 180 = .ok (.iaload, 1) := by decide +kernel
theorem dX10_worth_181 : decode cX10_worth 181 = .ok (.aload_n 0, 1) := by decide +kernel
theorem dX10_worth_182 : decode cX10_worth 182 = .ok (.getfield 68, 3) := by decide +kernel
theorem dX10_worth_185 : decode cX10_worth 185 = .ok (.iload_n 2, 1) := by decide +kernel
theorem dX10_worth_186 : decode cX10_worth 186 = .ok (.iaload, 1) := by decide +kernel
theorem dX10_worth_187 : decode cX10_worth 187 = .ok (.invokestatic 185, 3) := by decide +kernel
theorem dX10_worth_190 : decode cX10_worth 190 = .ok (.iastore, 1) := by decide +kernel
theorem dX10_worth_191 : decode cX10_worth 191 = .ok (.iinc 3 1, 3) := by decide +kernel
theorem dX10_worth_194 : decode cX10_worth 194 = .ok (.goto (-178), 3) := by decide +kernel
theorem dX10_worth_197 : decode cX10_worth 197 = .ok (.aload_n 0, 1) := by decide +kernel
theorem dX10_worth_198 : decode cX10_worth 198 = .ok (.getfield 68, 3) := by decide +kernel
theorem dX10_worth_201 : decode cX10_worth 201 = .ok (.iconst 0, 1) := by decide +kernel
theorem dX10_worth_202 : decode cX10_worth 202 = .ok (.iaload, 1) := by decide +kernel
theorem dX10_worth_203 : decode cX10_worth 203 = .ok (.ireturn, 1) := by decide +kernel
theorem dX10_force_0 : decode cX10_force 0 = .ok (.iload_n 1, 1) := by decide +kernel
theorem dX10_force_1 : decode cX10_force 1 = .ok (.iconst 0, 1) := by decide +kernel
theorem dX10_force_2 : decode cX10_force 2 = .ok (.aload_n 0, 1) := by decide +kernel
theorem dX10_force_3 : decode cX10_force 3 = .ok (.getfield 120, 3) := by decide +kernel
theorem dX10_force_6 : decode cX10_force 6 = .ok (.iconst 1, 1) := by decide +kernel
theorem dX10_force_7 : decode cX10_force 7 = .ok (.isub, 1) := by decide +kernel
theorem dX10_force_8 : decode cX10_force 8 = .ok (.invokestatic 91, 3) := by decide +kernel
theorem dX10_force_11 : decode cX10_force 11 = .ok (.ifCond .ne 6, 3) := by decide +kernel
theorem dX10_force_14 : decode cX10_force 14 = .ok (.bipush (-2), 2) := by decide +kernel
theorem dX10_force_16 : decode cX10_force 16 = .ok (.ireturn, 1) := by decide +kernel
theorem dX10_force_17 : decode cX10_force 17 = .ok (.aload_n 0, 1) := by decide +kernel
theorem dX10_force_18 : decode cX10_force 18 = .ok (.getfield 123, 3) := by decide +kernel
theorem dX10_force_21 : decode cX10_force 21 = .ok (.istore_n 2, 1) := by decide +kernel
theorem dX10_force_22 : decode cX10_force 22 = .ok (.aload_n 0, 1) := by decide +kernel
theorem dX10_force_23 : decode cX10_force 23 = .ok (.iload_n 1, 1) := by decide +kernel
theorem dX10_force_24 : decode cX10_force 24 = .ok (.putfield 123, 3) := by decide +kernel
theorem dX10_force_27 : decode cX10_force 27 = .ok (.iload_n 2, 1) := by decide +kernel
theorem dX10_force_28 : decode cX10_force 28 = .ok (.ireturn, 1) := by decide +kernel
theorem dX10_asksOf_0 : decode cX10_asksOf 0 = .ok (.aload_n 0, 1) := by decide +kernel
theorem dX10_asksOf_1 : decode cX10_asksOf 1 = .ok (.getfield 71, 3) := by decide +kernel
theorem dX10_asksOf_4 : decode cX10_asksOf 4 = .ok (.iconst 0, 1) := by decide +kernel
theorem dX10_asksOf_5 : decode cX10_asksOf 5 = .ok (.iload_n 2, 1) := by decide +kernel
theorem dX10_asksOf_6 : decode cX10_asksOf 6 = .ok (.iastore, 1) := by decide +kernel
theorem dX10_asksOf_7 : decode cX10_asksOf 7 = .ok (.aload_n 0, 1) := by decide +kernel
theorem dX10_asksOf_8 : decode cX10_asksOf 8 = .ok (.getfield 71, 3) := by decide +kernel
theorem dX10_asksOf_11 : decode cX10_asksOf 11 = .ok (.iconst 1, 1) := by decide +kernel
theorem dX10_asksOf_12 : decode cX10_asksOf 12 = .ok (.iload_n 3, 1) := by decide +kernel
theorem dX10_asksOf_13 : decode cX10_asksOf 13 = .ok (.iastore, 1) := by decide +kernel
theorem dX10_asksOf_14 : decode cX10_asksOf 14 = .ok (.aload_n 0, 1) := by decide +kernel
theorem dX10_asksOf_15 : decode cX10_asksOf 15 = .ok (.getfield 71, 3) := by decide +kernel
theorem dX10_asksOf_18 : decode cX10_asksOf 18 = .ok (.iconst 2, 1) := by decide +kernel
theorem dX10_asksOf_19 : decode cX10_asksOf 19 = .ok (.iload 4, 2) := by decide +kernel
theorem dX10_asksOf_21 : decode cX10_asksOf 21 = .ok (.iastore, 1) := by decide +kernel
theorem dX10_asksOf_22 : decode cX10_asksOf 22 = .ok (.aload_n 0, 1) := by decide +kernel
theorem dX10_asksOf_23 : decode cX10_asksOf 23 = .ok (.getfield 71, 3) := by decide +kernel
theorem dX10_asksOf_26 : decode cX10_asksOf 26 = .ok (.iconst 3, 1) := by decide +kernel
theorem dX10_asksOf_27 : decode cX10_asksOf 27 = .ok (.iload 5, 2) := by decide +kernel
theorem dX10_asksOf_29 : decode cX10_asksOf 29 = .ok (.iastore, 1) := by decide +kernel
theorem dX10_asksOf_30 : decode cX10_asksOf 30 = .ok (.aload_n 0, 1) := by decide +kernel
theorem dX10_asksOf_31 : decode cX10_asksOf 31 = .ok (.getfield 71, 3) := by decide +kernel
theorem dX10_asksOf_34 : decode cX10_asksOf 34 = .ok (.iconst 4, 1) := by decide +kernel
theorem dX10_asksOf_35 : decode cX10_asksOf 35 = .ok (.iload 6, 2) := by decide +kernel
theorem dX10_asksOf_37 : decode cX10_asksOf 37 = .ok (.iastore, 1) := by decide +kernel
theorem dX10_asksOf_38 : decode cX10_asksOf 38 = .ok (.aload_n 0, 1) := by decide +kernel
theorem dX10_asksOf_39 : decode cX10_asksOf 39 = .ok (.getfield 71, 3) := by decide +kernel
theorem dX10_asksOf_42 : decode cX10_asksOf 42 = .ok (.iconst 5, 1) := by decide +kernel
theorem dX10_asksOf_43 : decode cX10_asksOf 43 = .ok (.iload 7, 2) := by decide +kernel
theorem dX10_asksOf_45 : decode cX10_asksOf 45 = .ok (.iastore, 1) := by decide +kernel
theorem dX10_asksOf_46 : decode cX10_asksOf 46 = .ok (.aload_n 0, 1) := by decide +kernel
theorem dX10_asksOf_47 : decode cX10_asksOf 47 = .ok (.iload_n 1, 1) := by decide +kernel
theorem dX10_asksOf_48 : decode cX10_asksOf 48 = .ok (.invokevirtual 189, 3) := by decide +kernel
theorem dX10_asksOf_51 : decode cX10_asksOf 51 = .ok (.istore 8, 2) := by decide +kernel
theorem dX10_asksOf_53 : decode cX10_asksOf 53 = .ok (.iload_n 1, 1) := by decide +kernel
theorem dX10_asksOf_54 : decode cX10_asksOf 54 = .ok (.iconst 1, 1) := by decide +kernel
theorem dX10_asksOf_55 : decode cX10_asksOf 55 = .ok (.if_icmp .ne 16, 3) := by decide +kernel
theorem dX10_asksOf_58 : decode cX10_asksOf 58 = .ok (.iload 8, 2) := by decide +kernel
theorem dX10_asksOf_60 : decode cX10_asksOf 60 = .ok (.ifCond .ne 7, 3) := by decide +kernel
theorem dX10_asksOf_63 : decode cX10_asksOf 63 = .ok (.iconst 0, 1) := by decide +kernel
theorem dX10_asksOf_64 : decode cX10_asksOf 64 = .ok (.goto 24, 3) := by decide +kernel
theorem dX10_asksOf_67 : decode cX10_asksOf 67 = .ok (.iconst 1, 1) := by decide +kernel
theorem dX10_asksOf_68 : decode cX10_asksOf 68 = .ok (.goto 20, 3) := by decide +kernel
theorem dX10_asksOf_71 : decode cX10_asksOf 71 = .ok (.iload 8, 2) := by decide +kernel
theorem dX10_asksOf_73 : decode cX10_asksOf 73 = .ok (.iconst 0, 1) := by decide +kernel
theorem dX10_asksOf_74 : decode cX10_asksOf 74 = .ok (.iload_n 1, 1) := by decide +kernel
theorem dX10_asksOf_75 : decode cX10_asksOf 75 = .ok (.ifCond .ne 8, 3) := by decide +kernel
theorem dX10_asksOf_78 : decode cX10_asksOf 78 = .ok (.bipush 9, 2) := by decide +kernel
theorem dX10_asksOf_80 : decode cX10_asksOf 80 = .ok (.goto 5, 3) := by decide +kernel
theorem dX10_asksOf_83 : decode cX10_asksOf 83 = .ok (.bipush 99, 2) := by decide +kernel
theorem dX10_asksOf_85 : decode cX10_asksOf 85 = .ok (.invokestatic 192, 3) := by decide +kernel
theorem dX10_asksOf_88 : decode cX10_asksOf 88 = .ok (.ireturn, 1) := by decide +kernel
theorem dX10_asks_0 : decode cX10_asks 0 = .ok (.iload_n 1, 1) := by decide +kernel
theorem dX10_asks_1 : decode cX10_asks 1 = .ok (.iconst 0, 1) := by decide +kernel
theorem dX10_asks_2 : decode cX10_asks 2 = .ok (.iconst 2, 1) := by decide +kernel
theorem dX10_asks_3 : decode cX10_asks 3 = .ok (.invokestatic 91, 3) := by decide +kernel
theorem dX10_asks_6 : decode cX10_asks 6 = .ok (.ifCond .eq 47, 3) := by decide +kernel
theorem dX10_asks_9 : decode cX10_asks 9 = .ok (.iload_n 2, 1) := by decide +kernel
theorem dX10_asks_10 : decode cX10_asks 10 = .ok (.iconst 0, 1) := by decide +kernel
theorem dX10_asks_11 : decode cX10_asks 11 = .ok (.bipush 99, 2) := by decide +kernel
theorem dX10_asks_13 : decode cX10_asks 13 = .ok (.invokestatic 91, 3) := by decide +kernel
theorem dX10_asks_16 : decode cX10_asks 16 = .ok (.ifCond .eq 37, 3) := by decide +kernel
theorem dX10_asks_19 : decode cX10_asks 19 = .ok (.iload_n 3, 1) := by decide +kernel
theorem dX10_asks_20 : decode cX10_asks 20 = .ok (.iconst 0, 1) := by decide +kernel
theorem dX10_asks_21 : decode cX10_asks 21 = .ok (.bipush 9, 2) := by decide +kernel
theorem dX10_asks_23 : decode cX10_asks 23 = .ok (.invokestatic 91, 3) := by decide +kernel
theorem dX10_asks_26 : decode cX10_asks 26 = .ok (.ifCond .eq 27, 3) := by decide +kernel
theorem dX10_asks_29 : decode cX10_asks 29 = .ok (.iload 4, 2) := by decide +kernel
theorem dX10_asks_31 : decode cX10_asks 31 = .ok (.invokestatic 195, 3) := by decide +kernel
theorem dX10_asks_34 : decode cX10_asks 34 = .ok (.ifCond .eq 19, 3) := by decide +kernel
theorem dX10_asks_37 : decode cX10_asks 37 = .ok (.iload 5, 2) := by decide +kernel
theorem dX10_asks_39 : decode cX10_asks 39 = .ok (.iconst 0, 1) := by decide +kernel
theorem dX10_asks_40 : decode cX10_asks 40 = .ok (.sipush 999, 3) := by decide +kernel
theorem dX10_asks_43 : decode cX10_asks 43 = .ok (.invokestatic 91, 3) := by decide +kernel
theorem dX10_asks_46 : decode cX10_asks 46 = .ok (.ifCond .eq 7, 3) := by decide +kernel
theorem dX10_asks_49 : decode cX10_asks 49 = .ok (.iconst 1, 1) := by decide +kernel
theorem dX10_asks_50 : decode cX10_asks 50 = .ok (.goto 4, 3) := by decide +kernel
theorem dX10_asks_53 : decode cX10_asks 53 = .ok (.iconst 0, 1) := by decide +kernel
theorem dX10_asks_54 : decode cX10_asks 54 = .ok (.istore 6, 2) := by decide +kernel
theorem dX10_asks_56 : decode cX10_asks 56 = .ok (.iload 6, 2) := by decide +kernel
theorem dX10_asks_58 : decode cX10_asks 58 = .ok (.ifCond .eq 32, 3) := by decide +kernel
theorem dX10_asks_61 : decode cX10_asks 61 = .ok (.aload_n 0, 1) := by decide +kernel
theorem dX10_asks_62 : decode cX10_asks 62 = .ok (.iload_n 1, 1) := by decide +kernel
theorem dX10_asks_63 : decode cX10_asks 63 = .ok (.iload_n 2, 1) := by decide +kernel
theorem dX10_asks_64 : decode cX10_asks 64 = .ok (.bipush 10, 2) := by decide +kernel
theorem dX10_asks_66 : decode cX10_asks 66 = .ok (.idiv, 1) := by decide +kernel
theorem dX10_asks_67 : decode cX10_asks 67 = .ok (.iload_n 2, 1) := by decide +kernel
theorem dX10_asks_68 : decode cX10_asks 68 = .ok (.bipush 10, 2) := by decide +kernel
theorem dX10_asks_70 : decode cX10_asks 70 = .ok (.irem, 1) := by decide +kernel
theorem dX10_asks_71 : decode cX10_asks 71 = .ok (.iload_n 3, 1) := by decide +kernel
theorem dX10_asks_72 : decode cX10_asks 72 = .ok (.iload 4, 2) := by decide +kernel
theorem dX10_asks_74 : decode cX10_asks 74 = .ok (.iload 5, 2) := by decide +kernel
theorem dX10_asks_76 : decode cX10_asks 76 = .ok (.bipush 100, 2) := by decide +kernel
theorem dX10_asks_78 : decode cX10_asks 78 = .ok (.idiv, 1) := by decide +kernel
theorem dX10_asks_79 : decode cX10_asks 79 = .ok (.iload 5, 2) := by decide +kernel
theorem dX10_asks_81 : decode cX10_asks 81 = .ok (.bipush 100, 2) := by decide +kernel
theorem dX10_asks_83 : decode cX10_asks 83 = .ok (.irem, 1) := by decide +kernel
theorem dX10_asks_84 : decode cX10_asks 84 = .ok (.invokevirtual 198, 3) := by decide +kernel
theorem dX10_asks_87 : decode cX10_asks 87 = .ok (.goto 5, 3) := by decide +kernel
theorem dX10_asks_90 : decode cX10_asks 90 = .ok (.bipush (-2), 2) := by decide +kernel
theorem dX10_asks_92 : decode cX10_asks 92 = .ok (.ireturn, 1) := by decide +kernel
theorem dX10_guard_0 : decode cX10_guard 0 = .ok (.iload_n 1, 1) := by decide +kernel
theorem dX10_guard_1 : decode cX10_guard 1 = .ok (.iconst 0, 1) := by decide +kernel
theorem dX10_guard_2 : decode cX10_guard 2 = .ok (.iconst 5, 1) := by decide +kernel
theorem dX10_guard_3 : decode cX10_guard 3 = .ok (.invokestatic 91, 3) := by decide +kernel
theorem dX10_guard_6 : decode cX10_guard 6 = .ok (.ifCond .eq 43, 3) := by decide +kernel
theorem dX10_guard_9 : decode cX10_guard 9 = .ok (.iload_n 2, 1) := by decide +kernel
theorem dX10_guard_10 : decode cX10_guard 10 = .ok (.invokestatic 110, 3) := by decide +kernel
theorem dX10_guard_13 : decode cX10_guard 13 = .ok (.ifCond .eq 36, 3) := by decide +kernel
theorem dX10_guard_16 : decode cX10_guard 16 = .ok (.iload_n 3, 1) := by decide +kernel
theorem dX10_guard_17 : decode cX10_guard 17 = .ok (.iconst 0, 1) := by decide +kernel
theorem dX10_guard_18 : decode cX10_guard 18 = .ok (.bipush 35, 2) := by decide +kernel
theorem dX10_guard_20 : decode cX10_guard 20 = .ok (.invokestatic 91, 3) := by decide +kernel
theorem dX10_guard_23 : decode cX10_guard 23 = .ok (.ifCond .eq 26, 3) := by decide +kernel
theorem dX10_guard_26 : decode cX10_guard 26 = .ok (.iload_n 3, 1) := by decide +kernel
theorem dX10_guard_27 : decode cX10_guard 27 = .ok (.bipush 10, 2) := by decide +kernel
theorem dX10_guard_29 : decode cX10_guard 29 = .ok (.irem, 1) := by decide +kernel
theorem dX10_guard_30 : decode cX10_guard 30 = .ok (.iconst 5, 1) := by decide +kernel
theorem dX10_guard_31 : decode cX10_guard 31 = .ok (.if_icmp .gt 18, 3) := by decide +kernel
theorem dX10_guard_34 : decode cX10_guard 34 = .ok (.iload 4, 2) := by decide +kernel
theorem dX10_guard_36 : decode cX10_guard 36 = .ok (.iconst 0, 1) := by decide +kernel
theorem dX10_guard_37 : decode cX10_guard 37 = .ok (.bipush 9, 2) := by decide +kernel
theorem dX10_guard_39 : decode cX10_guard 39 = .ok (.invokestatic 91, 3) := by decide +kernel
theorem dX10_guard_42 : decode cX10_guard 42 = .ok (.ifCond .eq 7, 3) := by decide +kernel
theorem dX10_guard_45 : decode cX10_guard 45 = .ok (.iconst 1, 1) := by decide +kernel
theorem dX10_guard_46 : decode cX10_guard 46 = .ok (.goto 4, 3) := by decide +kernel
theorem dX10_guard_49 : decode cX10_guard 49 = .ok (.iconst 0, 1) := by decide +kernel
theorem dX10_guard_50 : decode cX10_guard 50 = .ok (.istore 5, 2) := by decide +kernel
theorem dX10_guard_52 : decode cX10_guard 52 = .ok (.iload 5, 2) := by decide +kernel
theorem dX10_guard_54 : decode cX10_guard 54 = .ok (.ifCond .ne 6, 3) := by decide +kernel
theorem dX10_guard_57 : decode cX10_guard 57 = .ok (.bipush (-2), 2) := by decide +kernel
theorem dX10_guard_59 : decode cX10_guard 59 = .ok (.ireturn, 1) := by decide +kernel
theorem dX10_guard_60 : decode cX10_guard 60 = .ok (.aload_n 0, 1) := by decide +kernel
theorem dX10_guard_61 : decode cX10_guard 61 = .ok (.getfield 97, 3) := by decide +kernel
theorem dX10_guard_64 : decode cX10_guard 64 = .ok (.iconst 5, 1) := by decide +kernel
theorem dX10_guard_65 : decode cX10_guard 65 = .ok (.if_icmp .ne 6, 3) := by decide +kernel
theorem dX10_guard_68 : decode cX10_guard 68 = .ok (.bipush (-4), 2) := by decide +kernel
theorem dX10_guard_70 : decode cX10_guard 70 = .ok (.ireturn, 1) := by decide +kernel
theorem dX10_guard_71 : decode cX10_guard 71 = .ok (.aload_n 0, 1) := by decide +kernel
theorem dX10_guard_72 : decode cX10_guard 72 = .ok (.getfield 13, 3) := by decide +kernel
theorem dX10_guard_75 : decode cX10_guard 75 = .ok (.aload_n 0, 1) := by decide +kernel
theorem dX10_guard_76 : decode cX10_guard 76 = .ok (.getfield 97, 3) := by decide +kernel
theorem dX10_guard_79 : decode cX10_guard 79 = .ok (.iload_n 1, 1) := by decide +kernel
theorem dX10_guard_80 : decode cX10_guard 80 = .ok (.iastore, 1) := by decide +kernel
theorem dX10_guard_81 : decode cX10_guard 81 = .ok (.aload_n 0, 1) := by decide +kernel
theorem dX10_guard_82 : decode cX10_guard 82 = .ok (.getfield 17, 3) := by decide +kernel
theorem dX10_guard_85 : decode cX10_guard 85 = .ok (.aload_n 0, 1) := by decide +kernel
theorem dX10_guard_86 : decode cX10_guard 86 = .ok (.getfield 97, 3) := by decide +kernel
theorem dX10_guard_89 : decode cX10_guard 89 = .ok (.iload_n 2, 1) := by decide +kernel
theorem dX10_guard_90 : decode cX10_guard 90 = .ok (.iastore, 1) := by decide +kernel
theorem dX10_guard_91 : decode cX10_guard 91 = .ok (.aload_n 0, 1) := by decide +kernel
theorem dX10_guard_92 : decode cX10_guard 92 = .ok (.getfield 20, 3) := by decide +kernel
theorem dX10_guard_95 : decode cX10_guard 95 = .ok (.aload_n 0, 1) := by decide +kernel
theorem dX10_guard_96 : decode cX10_guard 96 = .ok (.getfield 97, 3) := by decide +kernel
theorem dX10_guard_99 : decode cX10_guard 99 = .ok (.iload_n 3, 1) := by decide +kernel
theorem dX10_guard_100 : decode cX10_guard 100 = .ok (.bipush 10, 2) := by decide +kernel
theorem dX10_guard_102 : decode cX10_guard 102 = .ok (.idiv, 1) := by decide +kernel
theorem dX10_guard_103 : decode cX10_guard 103 = .ok (.iastore, 1) := by decide +kernel
theorem dX10_guard_104 : decode cX10_guard 104 = .ok (.aload_n 0, 1) := by decide +kernel
theorem dX10_guard_105 : decode cX10_guard 105 = .ok (.getfield 23, 3) := by decide +kernel
theorem dX10_guard_108 : decode cX10_guard 108 = .ok (.aload_n 0, 1) := by decide +kernel
theorem dX10_guard_109 : decode cX10_guard 109 = .ok (.getfield 97, 3) := by decide +kernel
theorem dX10_guard_112 : decode cX10_guard 112 = .ok (.iload_n 3, 1) := by decide +kernel
theorem dX10_guard_113 : decode cX10_guard 113 = .ok (.bipush 10, 2) := by decide +kernel
theorem dX10_guard_115 : decode cX10_guard 115 = .ok (.irem, 1) := by decide +kernel
theorem dX10_guard_116 : decode cX10_guard 116 = .ok (.iastore, 1) := by decide +kernel
theorem dX10_guard_117 : decode cX10_guard 117 = .ok (.aload_n 0, 1) := by decide +kernel
theorem dX10_guard_118 : decode cX10_guard 118 = .ok (.getfield 26, 3) := by decide +kernel
theorem dX10_guard_121 : decode cX10_guard 121 = .ok (.aload_n 0, 1) := by decide +kernel
theorem dX10_guard_122 : decode cX10_guard 122 = .ok (.getfield 97, 3) := by decide +kernel
theorem dX10_guard_125 : decode cX10_guard 125 = .ok (.iload 4, 2) := by decide +kernel
theorem dX10_guard_127 : decode cX10_guard 127 = .ok (.iastore, 1) := by decide +kernel
theorem dX10_guard_128 : decode cX10_guard 128 = .ok (.aload_n 0, 1) := by decide +kernel
theorem dX10_guard_129 : decode cX10_guard 129 = .ok (.getfield 29, 3) := by decide +kernel
theorem dX10_guard_132 : decode cX10_guard 132 = .ok (.aload_n 0, 1) := by decide +kernel
theorem dX10_guard_133 : decode cX10_guard 133 = .ok (.getfield 97, 3) := by decide +kernel
theorem dX10_guard_136 : decode cX10_guard 136 = .ok (.iconst 0, 1) := by decide +kernel
theorem dX10_guard_137 : decode cX10_guard 137 = .ok (.iastore, 1) := by decide +kernel
theorem dX10_guard_138 : decode cX10_guard 138 = .ok (.aload_n 0, 1) := by decide +kernel
theorem dX10_guard_139 : decode cX10_guard 139 = .ok (.dup, 1) := by decide +kernel
theorem dX10_guard_140 : decode cX10_guard 140 = .ok (.getfield 97, 3) := by decide +kernel
theorem dX10_guard_143 : decode cX10_guard 143 = .ok (.iconst 1, 1) := by decide +kernel
theorem dX10_guard_144 : decode cX10_guard 144 = .ok (.iadd, 1) := by decide +kernel
theorem dX10_guard_145 : decode cX10_guard 145 = .ok (.putfield 97, 3) := by decide +kernel
theorem dX10_guard_148 : decode cX10_guard 148 = .ok (.aload_n 0, 1) := by decide +kernel
theorem dX10_guard_149 : decode cX10_guard 149 = .ok (.getfield 97, 3) := by decide +kernel
theorem dX10_guard_152 : decode cX10_guard 152 = .ok (.iconst 1, 1) := by decide +kernel
theorem dX10_guard_153 : decode cX10_guard 153 = .ok (.isub, 1) := by decide +kernel
theorem dX10_guard_154 : decode cX10_guard 154 = .ok (.ireturn, 1) := by decide +kernel
theorem dX10_set_0 : decode cX10_set 0 = .ok (.aload_n 0, 1) := by decide +kernel
theorem dX10_set_1 : decode cX10_set 1 = .ok (.iload_n 1, 1) := by decide +kernel
theorem dX10_set_2 : decode cX10_set 2 = .ok (.invokevirtual 202, 3) := by decide +kernel
theorem dX10_set_5 : decode cX10_set 5 = .ok (.ifCond .ne 6, 3) := by decide +kernel
theorem dX10_set_8 : decode cX10_set 8 = .ok (.bipush (-5), 2) := by decide +kernel
theorem dX10_set_10 : decode cX10_set 10 = .ok (.ireturn, 1) := by decide +kernel
theorem dX10_set_11 : decode cX10_set 11 = .ok (.iload_n 2, 1) := by decide +kernel
theorem dX10_set_12 : decode cX10_set 12 = .ok (.iconst 0, 1) := by decide +kernel
theorem dX10_set_13 : decode cX10_set 13 = .ok (.iconst 1, 1) := by decide +kernel
theorem dX10_set_14 : decode cX10_set 14 = .ok (.invokestatic 91, 3) := by decide +kernel
theorem dX10_set_17 : decode cX10_set 17 = .ok (.ifCond .eq 21, 3) := by decide +kernel
theorem dX10_set_20 : decode cX10_set 20 = .ok (.iload_n 3, 1) := by decide +kernel
theorem dX10_set_21 : decode cX10_set 21 = .ok (.iconst 0, 1) := by decide +kernel
theorem dX10_set_22 : decode cX10_set 22 = .ok (.iload_n 2, 1) := by decide +kernel
theorem dX10_set_23 : decode cX10_set 23 = .ok (.ifCond .ne 8, 3) := by decide +kernel
theorem dX10_set_26 : decode cX10_set 26 = .ok (.bipush 23, 2) := by decide +kernel
theorem dX10_set_28 : decode cX10_set 28 = .ok (.goto 4, 3) := by decide +kernel
theorem dX10_set_31 : decode cX10_set 31 = .ok (.iconst 5, 1) := by decide +kernel
theorem dX10_set_32 : decode cX10_set 32 = .ok (.invokestatic 91, 3) := by decide +kernel
theorem dX10_set_35 : decode cX10_set 35 = .ok (.ifCond .ne 6, 3) := by decide +kernel
theorem dX10_set_38 : decode cX10_set 38 = .ok (.bipush (-7), 2) := by decide +kernel
theorem dX10_set_40 : decode cX10_set 40 = .ok (.ireturn, 1) := by decide +kernel
theorem dX10_set_41 : decode cX10_set 41 = .ok (.iload_n 2, 1) := by decide +kernel
theorem dX10_set_42 : decode cX10_set 42 = .ok (.ifCond .ne 12, 3) := by decide +kernel
theorem dX10_set_45 : decode cX10_set 45 = .ok (.aload_n 0, 1) := by decide +kernel
theorem dX10_set_46 : decode cX10_set 46 = .ok (.getfield 29, 3) := by decide +kernel
theorem dX10_set_49 : decode cX10_set 49 = .ok (.iload_n 1, 1) := by decide +kernel
theorem dX10_set_50 : decode cX10_set 50 = .ok (.iaload, 1) := by decide +kernel
theorem dX10_set_51 : decode cX10_set 51 = .ok (.goto 9, 3) := by decide +kernel
theorem dX10_set_54 : decode cX10_set 54 = .ok (.aload_n 0, 1) := by decide +kernel
theorem dX10_set_55 : decode cX10_set 55 = .ok (.getfield 23, 3) := by decide +kernel
theorem dX10_set_58 : decode cX10_set 58 = .ok (.iload_n 1, 1) := by decide +kernel
theorem dX10_set_59 : decode cX10_set 59 = .ok (.iaload, 1) := by decide +kernel
theorem dX10_set_60 : decode cX10_set 60 = .ok (.istore 4, 2) := by decide +kernel
theorem dX10_set_62 : decode cX10_set 62 = .ok (.aload_n 0, 1) := by decide +kernel
theorem dX10_set_63 : decode cX10_set 63 = .ok (.getfield 29, 3) := by decide +kernel
theorem dX10_set_66 : decode cX10_set 66 = .ok (.iload_n 1, 1) := by decide +kernel
theorem dX10_set_67 : decode cX10_set 67 = .ok (.iload_n 2, 1) := by decide +kernel
theorem dX10_set_68 : decode cX10_set 68 = .ok (.ifCond .ne 7, 3) := by decide +kernel
theorem dX10_set_71 : decode cX10_set 71 = .ok (.iload_n 3, 1) := by decide +kernel
theorem dX10_set_72 : decode cX10_set 72 = .ok (.goto 9, 3) := by decide +kernel
theorem dX10_set_75 : decode cX10_set 75 = .ok (.aload_n 0, 1) := by decide +kernel
theorem dX10_set_76 : decode cX10_set 76 = .ok (.getfield 29, 3) := by decide +kernel
theorem dX10_set_79 : decode cX10_set 79 = .ok (.iload_n 1, 1) := by decide +kernel
theorem dX10_set_80 : decode cX10_set 80 = .ok (.iaload, 1) := by decide +kernel
theorem dX10_set_81 : decode cX10_set 81 = .ok (.iastore, 1) := by decide +kernel
theorem dX10_set_82 : decode cX10_set 82 = .ok (.aload_n 0, 1) := by decide +kernel
theorem dX10_set_83 : decode cX10_set 83 = .ok (.getfield 23, 3) := by decide +kernel
theorem dX10_set_86 : decode cX10_set 86 = .ok (.iload_n 1, 1) := by decide +kernel
theorem dX10_set_87 : decode cX10_set 87 = .ok (.iload_n 2, 1) := by decide +kernel
theorem dX10_set_88 : decode cX10_set 88 = .ok (.iconst 1, 1) := by decide +kernel
theorem dX10_set_89 : decode cX10_set 89 = .ok (.if_icmp .ne 7, 3) := by decide +kernel
theorem dX10_set_92 : decode cX10_set 92 = .ok (.iload_n 3, 1) := by decide +kernel
theorem dX10_set_93 : decode cX10_set 93 = .ok (.goto 9, 3) := by decide +kernel
theorem dX10_set_96 : decode cX10_set 96 = .ok (.aload_n 0, 1) := by decide +kernel
theorem dX10_set_97 : decode cX10_set 97 = .ok (.getfield 23, 3) := by decide +kernel
theorem dX10_set_100 : decode cX10_set 100 = .ok (.iload_n 1, 1) := by decide +kernel
theorem dX10_set_101 : decode cX10_set 101 = .ok (.iaload, 1) := by decide +kernel
theorem dX10_set_102 : decode cX10_set 102 = .ok (.iastore, 1) := by decide +kernel
theorem dX10_set_103 : decode cX10_set 103 = .ok (.iload 4, 2) := by decide +kernel
theorem dX10_set_105 : decode cX10_set 105 = .ok (.ireturn, 1) := by decide +kernel
theorem dX10_guardTold_0 : decode cX10_guardTold 0 = .ok (.aload_n 0, 1) := by decide +kernel
theorem dX10_guardTold_1 : decode cX10_guardTold 1 = .ok (.iload_n 1, 1) := by decide +kernel
theorem dX10_guardTold_2 : decode cX10_guardTold 2 = .ok (.invokevirtual 202, 3) := by decide +kernel
theorem dX10_guardTold_5 : decode cX10_guardTold 5 = .ok (.ifCond .ne 6, 3) := by decide +kernel
theorem dX10_guardTold_8 : decode cX10_guardTold 8 = .ok (.bipush (-5), 2) := by decide +kernel
theorem dX10_guardTold_10 : decode cX10_guardTold 10 = .ok (.ireturn, 1) := by decide +kernel
theorem dX10_guardTold_11 : decode cX10_guardTold 11 = .ok (.iload_n 2, 1) := by decide +kernel
theorem dX10_guardTold_12 : decode cX10_guardTold 12 = .ok (.tableswitch 82 0 5 #[40, 47, 54, 61, 68, 75], 40) := by decide +kernel
theorem dX10_guardTold_52 : decode cX10_guardTold 52 = .ok (.aload_n 0, 1) := by decide +kernel
theorem dX10_guardTold_53 : decode cX10_guardTold 53 = .ok (.getfield 29, 3) := by decide +kernel
theorem dX10_guardTold_56 : decode cX10_guardTold 56 = .ok (.iload_n 1, 1) := by decide +kernel
theorem dX10_guardTold_57 : decode cX10_guardTold 57 = .ok (.iaload, 1) := by decide +kernel
theorem dX10_guardTold_58 : decode cX10_guardTold 58 = .ok (.ireturn, 1) := by decide +kernel
theorem dX10_guardTold_59 : decode cX10_guardTold 59 = .ok (.aload_n 0, 1) := by decide +kernel
theorem dX10_guardTold_60 : decode cX10_guardTold 60 = .ok (.getfield 23, 3) := by decide +kernel
theorem dX10_guardTold_63 : decode cX10_guardTold 63 = .ok (.iload_n 1, 1) := by decide +kernel
theorem dX10_guardTold_64 : decode cX10_guardTold 64 = .ok (.iaload, 1) := by decide +kernel
theorem dX10_guardTold_65 : decode cX10_guardTold 65 = .ok (.ireturn, 1) := by decide +kernel
theorem dX10_guardTold_66 : decode cX10_guardTold 66 = .ok (.aload_n 0, 1) := by decide +kernel
theorem dX10_guardTold_67 : decode cX10_guardTold 67 = .ok (.getfield 13, 3) := by decide +kernel
theorem dX10_guardTold_70 : decode cX10_guardTold 70 = .ok (.iload_n 1, 1) := by decide +kernel
theorem dX10_guardTold_71 : decode cX10_guardTold 71 = .ok (.iaload, 1) := by decide +kernel
theorem dX10_guardTold_72 : decode cX10_guardTold 72 = .ok (.ireturn, 1) := by decide +kernel
theorem dX10_guardTold_73 : decode cX10_guardTold 73 = .ok (.aload_n 0, 1) := by decide +kernel
theorem dX10_guardTold_74 : decode cX10_guardTold 74 = .ok (.getfield 17, 3) := by decide +kernel
theorem dX10_guardTold_77 : decode cX10_guardTold 77 = .ok (.iload_n 1, 1) := by decide +kernel
theorem dX10_guardTold_78 : decode cX10_guardTold 78 = .ok (.iaload, 1) := by decide +kernel
theorem dX10_guardTold_79 : decode cX10_guardTold 79 = .ok (.ireturn, 1) := by decide +kernel
theorem dX10_guardTold_80 : decode cX10_guardTold 80 = .ok (.aload_n 0, 1) := by decide +kernel
theorem dX10_guardTold_81 : decode cX10_guardTold 81 = .ok (.getfield 20, 3) := by decide +kernel
theorem dX10_guardTold_84 : decode cX10_guardTold 84 = .ok (.iload_n 1, 1) := by decide +kernel
theorem dX10_guardTold_85 : decode cX10_guardTold 85 = .ok (.iaload, 1) := by decide +kernel
theorem dX10_guardTold_86 : decode cX10_guardTold 86 = .ok (.ireturn, 1) := by decide +kernel
theorem dX10_guardTold_87 : decode cX10_guardTold 87 = .ok (.aload_n 0, 1) := by decide +kernel
theorem dX10_guardTold_88 : decode cX10_guardTold 88 = .ok (.getfield 26, 3) := by decide +kernel
theorem dX10_guardTold_91 : decode cX10_guardTold 91 = .ok (.iload_n 1, 1) := by decide +kernel
theorem dX10_guardTold_92 : decode cX10_guardTold 92 = .ok (.iaload, 1) := by decide +kernel
theorem dX10_guardTold_93 : decode cX10_guardTold 93 = .ok (.ireturn, 1) := by decide +kernel
theorem dX10_guardTold_94 : decode cX10_guardTold 94 = .ok (.bipush (-7), 2) := by decide +kernel
theorem dX10_guardTold_96 : decode cX10_guardTold 96 = .ok (.ireturn, 1) := by decide +kernel
theorem dX10_beside_0 : decode cX10_beside 0 = .ok (.iload_n 1, 1) := by decide +kernel
theorem dX10_beside_1 : decode cX10_beside 1 = .ok (.bipush 6, 2) := by decide +kernel
theorem dX10_beside_3 : decode cX10_beside 3 = .ok (.idiv, 1) := by decide +kernel
theorem dX10_beside_4 : decode cX10_beside 4 = .ok (.iload_n 2, 1) := by decide +kernel
theorem dX10_beside_5 : decode cX10_beside 5 = .ok (.ifCond .ne 7, 3) := by decide +kernel
theorem dX10_beside_8 : decode cX10_beside 8 = .ok (.iconst 1, 1) := by decide +kernel
theorem dX10_beside_9 : decode cX10_beside 9 = .ok (.goto 13, 3) := by decide +kernel
theorem dX10_beside_12 : decode cX10_beside 12 = .ok (.iload_n 2, 1) := by decide +kernel
theorem dX10_beside_13 : decode cX10_beside 13 = .ok (.iconst 2, 1) := by decide +kernel
theorem dX10_beside_14 : decode cX10_beside 14 = .ok (.if_icmp .ne 7, 3) := by decide +kernel
theorem dX10_beside_17 : decode cX10_beside 17 = .ok (.iconst (-1), 1) := by decide +kernel
theorem dX10_beside_18 : decode cX10_beside 18 = .ok (.goto 4, 3) := by decide +kernel
theorem dX10_beside_21 : decode cX10_beside 21 = .ok (.iconst 0, 1) := by decide +kernel
theorem dX10_beside_22 : decode cX10_beside 22 = .ok (.iadd, 1) := by decide +kernel
theorem dX10_beside_23 : decode cX10_beside 23 = .ok (.istore_n 3, 1) := by decide +kernel
theorem dX10_beside_24 : decode cX10_beside 24 = .ok (.iload_n 1, 1) := by decide +kernel
theorem dX10_beside_25 : decode cX10_beside 25 = .ok (.bipush 6, 2) := by decide +kernel
theorem dX10_beside_27 : decode cX10_beside 27 = .ok (.irem, 1) := by decide +kernel
theorem dX10_beside_28 : decode cX10_beside 28 = .ok (.iload_n 2, 1) := by decide +kernel
theorem dX10_beside_29 : decode cX10_beside 29 = .ok (.iconst 1, 1) := by decide +kernel
theorem dX10_beside_30 : decode cX10_beside 30 = .ok (.if_icmp .ne 7, 3) := by decide +kernel
theorem dX10_beside_33 : decode cX10_beside 33 = .ok (.iconst 1, 1) := by decide +kernel
theorem dX10_beside_34 : decode cX10_beside 34 = .ok (.goto 13, 3) := by decide +kernel
theorem dX10_beside_37 : decode cX10_beside 37 = .ok (.iload_n 2, 1) := by decide +kernel
theorem dX10_beside_38 : decode cX10_beside 38 = .ok (.iconst 3, 1) := by decide +kernel
theorem dX10_beside_39 : decode cX10_beside 39 = .ok (.if_icmp .ne 7, 3) := by decide +kernel
theorem dX10_beside_42 : decode cX10_beside 42 = .ok (.iconst (-1), 1) := by decide +kernel
theorem dX10_beside_43 : decode cX10_beside 43 = .ok (.goto 4, 3) := by decide +kernel
theorem dX10_beside_46 : decode cX10_beside 46 = .ok (.iconst 0, 1) := by decide +kernel
theorem dX10_beside_47 : decode cX10_beside 47 = .ok (.iadd, 1) := by decide +kernel
theorem dX10_beside_48 : decode cX10_beside 48 = .ok (.istore 4, 2) := by decide +kernel
theorem dX10_beside_50 : decode cX10_beside 50 = .ok (.iload_n 3, 1) := by decide +kernel
theorem dX10_beside_51 : decode cX10_beside 51 = .ok (.iconst 0, 1) := by decide +kernel
theorem dX10_beside_52 : decode cX10_beside 52 = .ok (.iconst 5, 1) := by decide +kernel
theorem dX10_beside_53 : decode cX10_beside 53 = .ok (.invokestatic 91, 3) := by decide +kernel
theorem dX10_beside_56 : decode cX10_beside 56 = .ok (.ifCond .eq 17, 3) := by decide +kernel
theorem dX10_beside_59 : decode cX10_beside 59 = .ok (.iload 4, 2) := by decide +kernel
theorem dX10_beside_61 : decode cX10_beside 61 = .ok (.iconst 0, 1) := by decide +kernel
theorem dX10_beside_62 : decode cX10_beside 62 = .ok (.iconst 5, 1) := by decide +kernel
theorem dX10_beside_63 : decode cX10_beside 63 = .ok (.invokestatic 91, 3) := by decide +kernel
theorem dX10_beside_66 : decode cX10_beside 66 = .ok (.ifCond .eq 7, 3) := by decide +kernel
theorem dX10_beside_69 : decode cX10_beside 69 = .ok (.iconst 1, 1) := by decide +kernel
theorem dX10_beside_70 : decode cX10_beside 70 = .ok (.goto 4, 3) := by decide +kernel
theorem dX10_beside_73 : decode cX10_beside 73 = .ok (.iconst 0, 1) := by decide +kernel
theorem dX10_beside_74 : decode cX10_beside 74 = .ok (.istore 5, 2) := by decide +kernel
theorem dX10_beside_76 : decode cX10_beside 76 = .ok (.iload 5, 2) := by decide +kernel
theorem dX10_beside_78 : decode cX10_beside 78 = .ok (.ifCond .eq 32, 3) := by decide +kernel
theorem dX10_beside_81 : decode cX10_beside 81 = .ok (.aload_n 0, 1) := by decide +kernel
theorem dX10_beside_82 : decode cX10_beside 82 = .ok (.getfield 7, 3) := by decide +kernel
theorem dX10_beside_85 : decode cX10_beside 85 = .ok (.iconst 0, 1) := by decide +kernel
theorem dX10_beside_86 : decode cX10_beside 86 = .ok (.laload, 1) := by decide +kernel
theorem dX10_beside_87 : decode cX10_beside 87 = .ok (.bipush 6, 2) := by decide +kernel
theorem dX10_beside_89 : decode cX10_beside 89 = .ok (.iload_n 3, 1) := by decide +kernel
theorem dX10_beside_90 : decode cX10_beside 90 = .ok (.imul, 1) := by decide +kernel
theorem dX10_beside_91 : decode cX10_beside 91 = .ok (.iload 4, 2) := by decide +kernel
theorem dX10_beside_93 : decode cX10_beside 93 = .ok (.iadd, 1) := by decide +kernel
theorem dX10_beside_94 : decode cX10_beside 94 = .ok (.invokestatic 100, 3) := by decide +kernel
theorem dX10_beside_97 : decode cX10_beside 97 = .ok (.ifCond .ne 13, 3) := by decide +kernel
theorem dX10_beside_100 : decode cX10_beside 100 = .ok (.bipush 6, 2) := by decide +kernel
theorem dX10_beside_102 : decode cX10_beside 102 = .ok (.iload_n 3, 1) := by decide +kernel
theorem dX10_beside_103 : decode cX10_beside 103 = .ok (.imul, 1) := by decide +kernel
theorem dX10_beside_104 : decode cX10_beside 104 = .ok (.iload 4, 2) := by decide +kernel
theorem dX10_beside_106 : decode cX10_beside 106 = .ok (.iadd, 1) := by decide +kernel
theorem dX10_beside_107 : decode cX10_beside 107 = .ok (.goto 4, 3) := by decide +kernel
theorem dX10_beside_110 : decode cX10_beside 110 = .ok (.iconst (-1), 1) := by decide +kernel
theorem dX10_beside_111 : decode cX10_beside 111 = .ok (.ireturn, 1) := by decide +kernel
theorem dX10_own_0 : decode cX10_own 0 = .ok (.iload_n 2, 1) := by decide +kernel
theorem dX10_own_1 : decode cX10_own 1 = .ok (.aload_n 0, 1) := by decide +kernel
theorem dX10_own_2 : decode cX10_own 2 = .ok (.getfield 29, 3) := by decide +kernel
theorem dX10_own_5 : decode cX10_own 5 = .ok (.iload_n 1, 1) := by decide +kernel
theorem dX10_own_6 : decode cX10_own 6 = .ok (.iaload, 1) := by decide +kernel
theorem dX10_own_7 : decode cX10_own 7 = .ok (.iadd, 1) := by decide +kernel
theorem dX10_own_8 : decode cX10_own 8 = .ok (.bipush 24, 2) := by decide +kernel
theorem dX10_own_10 : decode cX10_own 10 = .ok (.irem, 1) := by decide +kernel
theorem dX10_own_11 : decode cX10_own 11 = .ok (.ireturn, 1) := by decide +kernel
theorem dX10_steps_0 : decode cX10_steps 0 = .ok (.aload_n 0, 1) := by decide +kernel
theorem dX10_steps_1 : decode cX10_steps 1 = .ok (.getfield 13, 3) := by decide +kernel
theorem dX10_steps_4 : decode cX10_steps 4 = .ok (.iload_n 1, 1) := by decide +kernel
theorem dX10_steps_5 : decode cX10_steps 5 = .ok (.iaload, 1) := by decide +kernel
theorem dX10_steps_6 : decode cX10_steps 6 = .ok (.istore_n 3, 1) := by decide +kernel
theorem dX10_steps_7 : decode cX10_steps 7 = .ok (.iload_n 3, 1) := by decide +kernel
theorem dX10_steps_8 : decode cX10_steps 8 = .ok (.iconst 1, 1) := by decide +kernel
theorem dX10_steps_9 : decode cX10_steps 9 = .ok (.if_icmp .eq 8, 3) := by decide +kernel
theorem dX10_steps_12 : decode cX10_steps 12 = .ok (.iload_n 3, 1) := by decide +kernel
theorem dX10_steps_13 : decode cX10_steps 13 = .ok (.iconst 3, 1) := by decide +kernel
theorem dX10_steps_14 : decode cX10_steps 14 = .ok (.if_icmp .ne 7, 3) := by decide +kernel
theorem dX10_steps_17 : decode cX10_steps 17 = .ok (.iconst 0, 1) := by decide +kernel
theorem dX10_steps_18 : decode cX10_steps 18 = .ok (.goto 31, 3) := by decide +kernel
theorem dX10_steps_21 : decode cX10_steps 21 = .ok (.iload_n 3, 1) := by decide +kernel
theorem dX10_steps_22 : decode cX10_steps 22 = .ok (.iconst 2, 1) := by decide +kernel
theorem dX10_steps_23 : decode cX10_steps 23 = .ok (.if_icmp .eq 8, 3) := by decide +kernel
theorem dX10_steps_26 : decode cX10_steps 26 = .ok (.iload_n 3, 1) := by decide +kernel
theorem dX10_steps_27 : decode cX10_steps 27 = .ok (.iconst 4, 1) := by decide +kernel
theorem dX10_steps_28 : decode cX10_steps 28 = .ok (.if_icmp .ne 9, 3) := by decide +kernel
theorem dX10_steps_31 : decode cX10_steps 31 = .ok (.iload_n 2, 1) := by decide +kernel
theorem dX10_steps_32 : decode cX10_steps 32 = .ok (.iconst 2, 1) := by decide +kernel
theorem dX10_steps_33 : decode cX10_steps 33 = .ok (.idiv, 1) := by decide +kernel
theorem dX10_steps_34 : decode cX10_steps 34 = .ok (.goto 15, 3) := by decide +kernel
theorem dX10_steps_37 : decode cX10_steps 37 = .ok (.iload_n 3, 1) := by decide +kernel
theorem dX10_steps_38 : decode cX10_steps 38 = .ok (.iconst 5, 1) := by decide +kernel
theorem dX10_steps_39 : decode cX10_steps 39 = .ok (.if_icmp .ne 9, 3) := by decide +kernel
theorem dX10_steps_42 : decode cX10_steps 42 = .ok (.iconst 2, 1) := by decide +kernel
theorem dX10_steps_43 : decode cX10_steps 43 = .ok (.iload_n 2, 1) := by decide +kernel
theorem dX10_steps_44 : decode cX10_steps 44 = .ok (.imul, 1) := by decide +kernel
theorem dX10_steps_45 : decode cX10_steps 45 = .ok (.goto 4, 3) := by decide +kernel
theorem dX10_steps_48 : decode cX10_steps 48 = .ok (.iload_n 2, 1) := by decide +kernel
theorem dX10_steps_49 : decode cX10_steps 49 = .ok (.ireturn, 1) := by decide +kernel
theorem dX10_looks_0 : decode cX10_looks 0 = .ok (.aload_n 0, 1) := by decide +kernel
theorem dX10_looks_1 : decode cX10_looks 1 = .ok (.iload_n 1, 1) := by decide +kernel
theorem dX10_looks_2 : decode cX10_looks 2 = .ok (.iload_n 2, 1) := by decide +kernel
theorem dX10_looks_3 : decode cX10_looks 3 = .ok (.invokevirtual 205, 3) := by decide +kernel
theorem dX10_looks_6 : decode cX10_looks 6 = .ok (.istore_n 3, 1) := by decide +kernel
theorem dX10_looks_7 : decode cX10_looks 7 = .ok (.aload_n 0, 1) := by decide +kernel
theorem dX10_looks_8 : decode cX10_looks 8 = .ok (.getfield 13, 3) := by decide +kernel
theorem dX10_looks_11 : decode cX10_looks 11 = .ok (.iload_n 1, 1) := by decide +kernel
theorem dX10_looks_12 : decode cX10_looks 12 = .ok (.iaload, 1) := by decide +kernel
theorem dX10_looks_13 : decode cX10_looks 13 = .ok (.iconst 4, 1) := by decide +kernel
theorem dX10_looks_14 : decode cX10_looks 14 = .ok (.if_icmp .ne 24, 3) := by decide +kernel
theorem dX10_looks_17 : decode cX10_looks 17 = .ok (.iload_n 3, 1) := by decide +kernel
theorem dX10_looks_18 : decode cX10_looks 18 = .ok (.aload_n 0, 1) := by decide +kernel
theorem dX10_looks_19 : decode cX10_looks 19 = .ok (.getfield 26, 3) := by decide +kernel
theorem dX10_looks_22 : decode cX10_looks 22 = .ok (.iload_n 1, 1) := by decide +kernel
theorem dX10_looks_23 : decode cX10_looks 23 = .ok (.iaload, 1) := by decide +kernel
theorem dX10_looks_24 : decode cX10_looks 24 = .ok (.iconst 2, 1) := by decide +kernel
theorem dX10_looks_25 : decode cX10_looks 25 = .ok (.iadd, 1) := by decide +kernel
theorem dX10_looks_26 : decode cX10_looks 26 = .ok (.irem, 1) := by decide +kernel
theorem dX10_looks_27 : decode cX10_looks 27 = .ok (.ifCond .eq 7, 3) := by decide +kernel
theorem dX10_looks_30 : decode cX10_looks 30 = .ok (.iconst 1, 1) := by decide +kernel
theorem dX10_looks_31 : decode cX10_looks 31 = .ok (.goto 32, 3) := by decide +kernel
theorem dX10_looks_34 : decode cX10_looks 34 = .ok (.iconst 0, 1) := by decide +kernel
theorem dX10_looks_35 : decode cX10_looks 35 = .ok (.goto 28, 3) := by decide +kernel
theorem dX10_looks_38 : decode cX10_looks 38 = .ok (.aload_n 0, 1) := by decide +kernel
theorem dX10_looks_39 : decode cX10_looks 39 = .ok (.getfield 13, 3) := by decide +kernel
theorem dX10_looks_42 : decode cX10_looks 42 = .ok (.iload_n 1, 1) := by decide +kernel
theorem dX10_looks_43 : decode cX10_looks 43 = .ok (.iaload, 1) := by decide +kernel
theorem dX10_looks_44 : decode cX10_looks 44 = .ok (.iconst 5, 1) := by decide +kernel
theorem dX10_looks_45 : decode cX10_looks 45 = .ok (.if_icmp .ne 13, 3) := by decide +kernel
theorem dX10_looks_48 : decode cX10_looks 48 = .ok (.iload_n 3, 1) := by decide +kernel
theorem dX10_looks_49 : decode cX10_looks 49 = .ok (.aload_n 0, 1) := by decide +kernel
theorem dX10_looks_50 : decode cX10_looks 50 = .ok (.getfield 26, 3) := by decide +kernel
theorem dX10_looks_53 : decode cX10_looks 53 = .ok (.iload_n 1, 1) := by decide +kernel
theorem dX10_looks_54 : decode cX10_looks 54 = .ok (.iaload, 1) := by decide +kernel
theorem dX10_looks_55 : decode cX10_looks 55 = .ok (.if_icmp .lt 7, 3) := by decide +kernel
theorem dX10_looks_58 : decode cX10_looks 58 = .ok (.iconst 1, 1) := by decide +kernel
theorem dX10_looks_59 : decode cX10_looks 59 = .ok (.goto 4, 3) := by decide +kernel
theorem dX10_looks_62 : decode cX10_looks 62 = .ok (.iconst 0, 1) := by decide +kernel
theorem dX10_looks_63 : decode cX10_looks 63 = .ok (.ireturn, 1) := by decide +kernel
theorem dX10_beat_0 : decode cX10_beat 0 = .ok (.iconst 0, 1) := by decide +kernel
theorem dX10_beat_1 : decode cX10_beat 1 = .ok (.istore_n 2, 1) := by decide +kernel
theorem dX10_beat_2 : decode cX10_beat 2 = .ok (.aload_n 0, 1) := by decide +kernel
theorem dX10_beat_3 : decode cX10_beat 3 = .ok (.getfield 17, 3) := by decide +kernel
theorem dX10_beat_6 : decode cX10_beat 6 = .ok (.iload_n 1, 1) := by decide +kernel
theorem dX10_beat_7 : decode cX10_beat 7 = .ok (.iaload, 1) := by decide +kernel
theorem dX10_beat_8 : decode cX10_beat 8 = .ok (.istore_n 3, 1) := by decide +kernel
theorem dX10_beat_9 : decode cX10_beat 9 = .ok (.iload_n 2, 1) := by decide +kernel
theorem dX10_beat_10 : decode cX10_beat 10 = .ok (.aload_n 0, 1) := by decide +kernel
theorem dX10_beat_11 : decode cX10_beat 11 = .ok (.getfield 23, 3) := by decide +kernel
theorem dX10_beat_14 : decode cX10_beat 14 = .ok (.iload_n 1, 1) := by decide +kernel
theorem dX10_beat_15 : decode cX10_beat 15 = .ok (.iaload, 1) := by decide +kernel
theorem dX10_beat_16 : decode cX10_beat 16 = .ok (.if_icmp .ge 36, 3) := by decide +kernel
theorem dX10_beat_19 : decode cX10_beat 19 = .ok (.aload_n 0, 1) := by decide +kernel
theorem dX10_beat_20 : decode cX10_beat 20 = .ok (.iload_n 3, 1) := by decide +kernel
theorem dX10_beat_21 : decode cX10_beat 21 = .ok (.aload_n 0, 1) := by decide +kernel
theorem dX10_beat_22 : decode cX10_beat 22 = .ok (.getfield 20, 3) := by decide +kernel
theorem dX10_beat_25 : decode cX10_beat 25 = .ok (.iload_n 1, 1) := by decide +kernel
theorem dX10_beat_26 : decode cX10_beat 26 = .ok (.iaload, 1) := by decide +kernel
theorem dX10_beat_27 : decode cX10_beat 27 = .ok (.invokevirtual 208, 3) := by decide +kernel
theorem dX10_beat_30 : decode cX10_beat 30 = .ok (.iconst (-1), 1) := by decide +kernel
theorem dX10_beat_31 : decode cX10_beat 31 = .ok (.if_icmp .eq 21, 3) := by decide +kernel
theorem dX10_beat_34 : decode cX10_beat 34 = .ok (.aload_n 0, 1) := by decide +kernel
theorem dX10_beat_35 : decode cX10_beat 35 = .ok (.iload_n 3, 1) := by decide +kernel
theorem dX10_beat_36 : decode cX10_beat 36 = .ok (.aload_n 0, 1) := by decide +kernel
theorem dX10_beat_37 : decode cX10_beat 37 = .ok (.getfield 20, 3) := by decide +kernel
theorem dX10_beat_40 : decode cX10_beat 40 = .ok (.iload_n 1, 1) := by decide +kernel
theorem dX10_beat_41 : decode cX10_beat 41 = .ok (.iaload, 1) := by decide +kernel
theorem dX10_beat_42 : decode cX10_beat 42 = .ok (.invokevirtual 208, 3) := by decide +kernel
theorem dX10_beat_45 : decode cX10_beat 45 = .ok (.istore_n 3, 1) := by decide +kernel
theorem dX10_beat_46 : decode cX10_beat 46 = .ok (.iinc 2 1, 3) := by decide +kernel
theorem dX10_beat_49 : decode cX10_beat 49 = .ok (.goto (-40), 3) := by decide +kernel
theorem dX10_beat_52 : decode cX10_beat 52 = .ok (.iload_n 2, 1) := by decide +kernel
theorem dX10_beat_53 : decode cX10_beat 53 = .ok (.ireturn, 1) := by decide +kernel
theorem dX10_walked_0 : decode cX10_walked 0 = .ok (.aload_n 0, 1) := by decide +kernel
theorem dX10_walked_1 : decode cX10_walked 1 = .ok (.iload_n 1, 1) := by decide +kernel
theorem dX10_walked_2 : decode cX10_walked 2 = .ok (.invokevirtual 211, 3) := by decide +kernel
theorem dX10_walked_5 : decode cX10_walked 5 = .ok (.istore_n 3, 1) := by decide +kernel
theorem dX10_walked_6 : decode cX10_walked 6 = .ok (.iload_n 3, 1) := by decide +kernel
theorem dX10_walked_7 : decode cX10_walked 7 = .ok (.ifCond .ne 7, 3) := by decide +kernel
theorem dX10_walked_10 : decode cX10_walked 10 = .ok (.iconst 0, 1) := by decide +kernel
theorem dX10_walked_11 : decode cX10_walked 11 = .ok (.goto 18, 3) := by decide +kernel
theorem dX10_walked_14 : decode cX10_walked 14 = .ok (.aload_n 0, 1) := by decide +kernel
theorem dX10_walked_15 : decode cX10_walked 15 = .ok (.iload_n 1, 1) := by decide +kernel
theorem dX10_walked_16 : decode cX10_walked 16 = .ok (.aload_n 0, 1) := by decide +kernel
theorem dX10_walked_17 : decode cX10_walked 17 = .ok (.iload_n 1, 1) := by decide +kernel
theorem dX10_walked_18 : decode cX10_walked 18 = .ok (.iload_n 2, 1) := by decide +kernel
theorem dX10_walked_19 : decode cX10_walked 19 = .ok (.invokevirtual 205, 3) := by decide +kernel
theorem dX10_walked_22 : decode cX10_walked 22 = .ok (.invokevirtual 214, 3) := by decide +kernel
theorem dX10_walked_25 : decode cX10_walked 25 = .ok (.iconst 2, 1) := by decide +kernel
theorem dX10_walked_26 : decode cX10_walked 26 = .ok (.iload_n 3, 1) := by decide +kernel
theorem dX10_walked_27 : decode cX10_walked 27 = .ok (.imul, 1) := by decide +kernel
theorem dX10_walked_28 : decode cX10_walked 28 = .ok (.irem, 1) := by decide +kernel
theorem dX10_walked_29 : decode cX10_walked 29 = .ok (.ireturn, 1) := by decide +kernel
theorem dX10_stands_0 : decode cX10_stands 0 = .ok (.aload_n 0, 1) := by decide +kernel
theorem dX10_stands_1 : decode cX10_stands 1 = .ok (.iload_n 1, 1) := by decide +kernel
theorem dX10_stands_2 : decode cX10_stands 2 = .ok (.invokevirtual 211, 3) := by decide +kernel
theorem dX10_stands_5 : decode cX10_stands 5 = .ok (.istore_n 3, 1) := by decide +kernel
theorem dX10_stands_6 : decode cX10_stands 6 = .ok (.aload_n 0, 1) := by decide +kernel
theorem dX10_stands_7 : decode cX10_stands 7 = .ok (.iload_n 1, 1) := by decide +kernel
theorem dX10_stands_8 : decode cX10_stands 8 = .ok (.iload_n 2, 1) := by decide +kernel
theorem dX10_stands_9 : decode cX10_stands 9 = .ok (.invokevirtual 217, 3) := by decide +kernel
theorem dX10_stands_12 : decode cX10_stands 12 = .ok (.istore 4, 2) := by decide +kernel
theorem dX10_stands_14 : decode cX10_stands 14 = .ok (.iload 4, 2) := by decide +kernel
theorem dX10_stands_16 : decode cX10_stands 16 = .ok (.iload_n 3, 1) := by decide +kernel
theorem dX10_stands_17 : decode cX10_stands 17 = .ok (.if_icmp .gt 8, 3) := by decide +kernel
theorem dX10_stands_20 : decode cX10_stands 20 = .ok (.iload 4, 2) := by decide +kernel
theorem dX10_stands_22 : decode cX10_stands 22 = .ok (.goto 9, 3) := by decide +kernel
theorem dX10_stands_25 : decode cX10_stands 25 = .ok (.iconst 2, 1) := by decide +kernel
theorem dX10_stands_26 : decode cX10_stands 26 = .ok (.iload_n 3, 1) := by decide +kernel
theorem dX10_stands_27 : decode cX10_stands 27 = .ok (.imul, 1) := by decide +kernel
theorem dX10_stands_28 : decode cX10_stands 28 = .ok (.iload 4, 2) := by decide +kernel
theorem dX10_stands_30 : decode cX10_stands 30 = .ok (.isub, 1) := by decide +kernel
theorem dX10_stands_31 : decode cX10_stands 31 = .ok (.istore 5, 2) := by decide +kernel
theorem dX10_stands_33 : decode cX10_stands 33 = .ok (.aload_n 0, 1) := by decide +kernel
theorem dX10_stands_34 : decode cX10_stands 34 = .ok (.getfield 17, 3) := by decide +kernel
theorem dX10_stands_37 : decode cX10_stands 37 = .ok (.iload_n 1, 1) := by decide +kernel
theorem dX10_stands_38 : decode cX10_stands 38 = .ok (.iaload, 1) := by decide +kernel
theorem dX10_stands_39 : decode cX10_stands 39 = .ok (.istore 6, 2) := by decide +kernel
theorem dX10_stands_41 : decode cX10_stands 41 = .ok (.iconst 0, 1) := by decide +kernel
theorem dX10_stands_42 : decode cX10_stands 42 = .ok (.istore 7, 2) := by decide +kernel
theorem dX10_stands_44 : decode cX10_stands 44 = .ok (.iload 7, 2) := by decide +kernel
theorem dX10_stands_46 : decode cX10_stands 46 = .ok (.iload 5, 2) := by decide +kernel
theorem dX10_stands_48 : decode cX10_stands 48 = .ok (.if_icmp .ge 23, 3) := by decide +kernel
theorem dX10_stands_51 : decode cX10_stands 51 = .ok (.aload_n 0, 1) := by decide +kernel
theorem dX10_stands_52 : decode cX10_stands 52 = .ok (.iload 6, 2) := by decide +kernel
theorem dX10_stands_54 : decode cX10_stands 54 = .ok (.aload_n 0, 1) := by decide +kernel
theorem dX10_stands_55 : decode cX10_stands 55 = .ok (.getfield 20, 3) := by decide +kernel
theorem dX10_stands_58 : decode cX10_stands 58 = .ok (.iload_n 1, 1) := by decide +kernel
theorem dX10_stands_59 : decode cX10_stands 59 = .ok (.iaload, 1) := by decide +kernel
theorem dX10_stands_60 : decode cX10_stands 60 = .ok (.invokevirtual 208, 3) := by decide +kernel
theorem dX10_stands_63 : decode cX10_stands 63 = .ok (.istore 6, 2) := by decide +kernel
theorem dX10_stands_65 : decode cX10_stands 65 = .ok (.iinc 7 1, 3) := by decide +kernel
theorem dX10_stands_68 : decode cX10_stands 68 = .ok (.goto (-24), 3) := by decide +kernel
theorem dX10_stands_71 : decode cX10_stands 71 = .ok (.iload 6, 2) := by decide +kernel
theorem dX10_stands_73 : decode cX10_stands 73 = .ok (.ireturn, 1) := by decide +kernel
theorem dX10_turned_0 : decode cX10_turned 0 = .ok (.aload_n 0, 1) := by decide +kernel
theorem dX10_turned_1 : decode cX10_turned 1 = .ok (.iload_n 1, 1) := by decide +kernel
theorem dX10_turned_2 : decode cX10_turned 2 = .ok (.invokevirtual 211, 3) := by decide +kernel
theorem dX10_turned_5 : decode cX10_turned 5 = .ok (.istore_n 3, 1) := by decide +kernel
theorem dX10_turned_6 : decode cX10_turned 6 = .ok (.iload_n 3, 1) := by decide +kernel
theorem dX10_turned_7 : decode cX10_turned 7 = .ok (.ifCond .eq 13, 3) := by decide +kernel
theorem dX10_turned_10 : decode cX10_turned 10 = .ok (.aload_n 0, 1) := by decide +kernel
theorem dX10_turned_11 : decode cX10_turned 11 = .ok (.iload_n 1, 1) := by decide +kernel
theorem dX10_turned_12 : decode cX10_turned 12 = .ok (.iload_n 2, 1) := by decide +kernel
theorem dX10_turned_13 : decode cX10_turned 13 = .ok (.invokevirtual 217, 3) := by decide +kernel
theorem dX10_turned_16 : decode cX10_turned 16 = .ok (.iload_n 3, 1) := by decide +kernel
theorem dX10_turned_17 : decode cX10_turned 17 = .ok (.if_icmp .ge 12, 3) := by decide +kernel
theorem dX10_turned_20 : decode cX10_turned 20 = .ok (.aload_n 0, 1) := by decide +kernel
theorem dX10_turned_21 : decode cX10_turned 21 = .ok (.getfield 20, 3) := by decide +kernel
theorem dX10_turned_24 : decode cX10_turned 24 = .ok (.iload_n 1, 1) := by decide +kernel
theorem dX10_turned_25 : decode cX10_turned 25 = .ok (.iaload, 1) := by decide +kernel
theorem dX10_turned_26 : decode cX10_turned 26 = .ok (.goto 13, 3) := by decide +kernel
theorem dX10_turned_29 : decode cX10_turned 29 = .ok (.aload_n 0, 1) := by decide +kernel
theorem dX10_turned_30 : decode cX10_turned 30 = .ok (.getfield 20, 3) := by decide +kernel
theorem dX10_turned_33 : decode cX10_turned 33 = .ok (.iload_n 1, 1) := by decide +kernel
theorem dX10_turned_34 : decode cX10_turned 34 = .ok (.iaload, 1) := by decide +kernel
theorem dX10_turned_35 : decode cX10_turned 35 = .ok (.iconst 2, 1) := by decide +kernel
theorem dX10_turned_36 : decode cX10_turned 36 = .ok (.iadd, 1) := by decide +kernel
theorem dX10_turned_37 : decode cX10_turned 37 = .ok (.iconst 4, 1) := by decide +kernel
theorem dX10_turned_38 : decode cX10_turned 38 = .ok (.irem, 1) := by decide +kernel
theorem dX10_turned_39 : decode cX10_turned 39 = .ok (.istore 4, 2) := by decide +kernel
theorem dX10_turned_41 : decode cX10_turned 41 = .ok (.aload_n 0, 1) := by decide +kernel
theorem dX10_turned_42 : decode cX10_turned 42 = .ok (.getfield 13, 3) := by decide +kernel
theorem dX10_turned_45 : decode cX10_turned 45 = .ok (.iload_n 1, 1) := by decide +kernel
theorem dX10_turned_46 : decode cX10_turned 46 = .ok (.iaload, 1) := by decide +kernel
theorem dX10_turned_47 : decode cX10_turned 47 = .ok (.iconst 3, 1) := by decide +kernel
theorem dX10_turned_48 : decode cX10_turned 48 = .ok (.if_icmp .ne 28, 3) := by decide +kernel
theorem dX10_turned_51 : decode cX10_turned 51 = .ok (.iload 4, 2) := by decide +kernel
theorem dX10_turned_53 : decode cX10_turned 53 = .ok (.iconst 3, 1) := by decide +kernel
theorem dX10_turned_54 : decode cX10_turned 54 = .ok (.aload_n 0, 1) := by decide +kernel
theorem dX10_turned_55 : decode cX10_turned 55 = .ok (.iload_n 1, 1) := by decide +kernel
theorem dX10_turned_56 : decode cX10_turned 56 = .ok (.iload_n 2, 1) := by decide +kernel
theorem dX10_turned_57 : decode cX10_turned 57 = .ok (.invokevirtual 205, 3) := by decide +kernel
theorem dX10_turned_60 : decode cX10_turned 60 = .ok (.aload_n 0, 1) := by decide +kernel
theorem dX10_turned_61 : decode cX10_turned 61 = .ok (.getfield 26, 3) := by decide +kernel
theorem dX10_turned_64 : decode cX10_turned 64 = .ok (.iload_n 1, 1) := by decide +kernel
theorem dX10_turned_65 : decode cX10_turned 65 = .ok (.iaload, 1) := by decide +kernel
theorem dX10_turned_66 : decode cX10_turned 66 = .ok (.iconst 1, 1) := by decide +kernel
theorem dX10_turned_67 : decode cX10_turned 67 = .ok (.iadd, 1) := by decide +kernel
theorem dX10_turned_68 : decode cX10_turned 68 = .ok (.idiv, 1) := by decide +kernel
theorem dX10_turned_69 : decode cX10_turned 69 = .ok (.imul, 1) := by decide +kernel
theorem dX10_turned_70 : decode cX10_turned 70 = .ok (.iadd, 1) := by decide +kernel
theorem dX10_turned_71 : decode cX10_turned 71 = .ok (.iconst 4, 1) := by decide +kernel
theorem dX10_turned_72 : decode cX10_turned 72 = .ok (.irem, 1) := by decide +kernel
theorem dX10_turned_73 : decode cX10_turned 73 = .ok (.goto 5, 3) := by decide +kernel
theorem dX10_turned_76 : decode cX10_turned 76 = .ok (.iload 4, 2) := by decide +kernel
theorem dX10_turned_78 : decode cX10_turned 78 = .ok (.ireturn, 1) := by decide +kernel
theorem dX10_at_0 : decode cX10_at 0 = .ok (.aload_n 0, 1) := by decide +kernel
theorem dX10_at_1 : decode cX10_at 1 = .ok (.iload_n 1, 1) := by decide +kernel
theorem dX10_at_2 : decode cX10_at 2 = .ok (.invokevirtual 202, 3) := by decide +kernel
theorem dX10_at_5 : decode cX10_at 5 = .ok (.ifCond .ne 6, 3) := by decide +kernel
theorem dX10_at_8 : decode cX10_at 8 = .ok (.bipush (-5), 2) := by decide +kernel
theorem dX10_at_10 : decode cX10_at 10 = .ok (.ireturn, 1) := by decide +kernel
theorem dX10_at_11 : decode cX10_at 11 = .ok (.iload_n 2, 1) := by decide +kernel
theorem dX10_at_12 : decode cX10_at 12 = .ok (.invokestatic 195, 3) := by decide +kernel
theorem dX10_at_15 : decode cX10_at 15 = .ok (.ifCond .eq 12, 3) := by decide +kernel
theorem dX10_at_18 : decode cX10_at 18 = .ok (.iload_n 3, 1) := by decide +kernel
theorem dX10_at_19 : decode cX10_at 19 = .ok (.iconst 0, 1) := by decide +kernel
theorem dX10_at_20 : decode cX10_at 20 = .ok (.iconst 2, 1) := by decide +kernel
theorem dX10_at_21 : decode cX10_at 21 = .ok (.invokestatic 91, 3) := by decide +kernel
theorem dX10_at_24 : decode cX10_at 24 = .ok (.ifCond .ne 6, 3) := by decide +kernel
theorem dX10_at_27 : decode cX10_at 27 = .ok (.bipush (-7), 2) := by decide +kernel
theorem dX10_at_29 : decode cX10_at 29 = .ok (.ireturn, 1) := by decide +kernel
theorem dX10_at_30 : decode cX10_at 30 = .ok (.iload_n 3, 1) := by decide +kernel
theorem dX10_at_31 : decode cX10_at 31 = .ok (.ifCond .ne 12, 3) := by decide +kernel
theorem dX10_at_34 : decode cX10_at 34 = .ok (.aload_n 0, 1) := by decide +kernel
theorem dX10_at_35 : decode cX10_at 35 = .ok (.iload_n 1, 1) := by decide +kernel
theorem dX10_at_36 : decode cX10_at 36 = .ok (.iload_n 2, 1) := by decide +kernel
theorem dX10_at_37 : decode cX10_at 37 = .ok (.invokevirtual 220, 3) := by decide +kernel
theorem dX10_at_40 : decode cX10_at 40 = .ok (.goto 31, 3) := by decide +kernel
theorem dX10_at_43 : decode cX10_at 43 = .ok (.iload_n 3, 1) := by decide +kernel
theorem dX10_at_44 : decode cX10_at 44 = .ok (.iconst 1, 1) := by decide +kernel
theorem dX10_at_45 : decode cX10_at 45 = .ok (.if_icmp .ne 12, 3) := by decide +kernel
theorem dX10_at_48 : decode cX10_at 48 = .ok (.aload_n 0, 1) := by decide +kernel
theorem dX10_at_49 : decode cX10_at 49 = .ok (.iload_n 1, 1) := by decide +kernel
theorem dX10_at_50 : decode cX10_at 50 = .ok (.iload_n 2, 1) := by decide +kernel
theorem dX10_at_51 : decode cX10_at 51 = .ok (.invokevirtual 223, 3) := by decide +kernel
theorem dX10_at_54 : decode cX10_at 54 = .ok (.goto 17, 3) := by decide +kernel
theorem dX10_at_57 : decode cX10_at 57 = .ok (.aload_n 0, 1) := by decide +kernel
theorem dX10_at_58 : decode cX10_at 58 = .ok (.iload_n 1, 1) := by decide +kernel
theorem dX10_at_59 : decode cX10_at 59 = .ok (.iload_n 2, 1) := by decide +kernel
theorem dX10_at_60 : decode cX10_at 60 = .ok (.invokevirtual 226, 3) := by decide +kernel
theorem dX10_at_63 : decode cX10_at 63 = .ok (.ifCond .eq 7, 3) := by decide +kernel
theorem dX10_at_66 : decode cX10_at 66 = .ok (.iconst 1, 1) := by decide +kernel
theorem dX10_at_67 : decode cX10_at 67 = .ok (.goto 4, 3) := by decide +kernel
theorem dX10_at_70 : decode cX10_at 70 = .ok (.iconst 0, 1) := by decide +kernel
theorem dX10_at_71 : decode cX10_at 71 = .ok (.ireturn, 1) := by decide +kernel
theorem dX10_lit_0 : decode cX10_lit 0 = .ok (.aload_n 0, 1) := by decide +kernel
theorem dX10_lit_1 : decode cX10_lit 1 = .ok (.getfield 7, 3) := by decide +kernel
theorem dX10_lit_4 : decode cX10_lit 4 = .ok (.iconst 1, 1) := by decide +kernel
theorem dX10_lit_5 : decode cX10_lit 5 = .ok (.laload, 1) := by decide +kernel
theorem dX10_lit_6 : decode cX10_lit 6 = .ok (.iload_n 1, 1) := by decide +kernel
theorem dX10_lit_7 : decode cX10_lit 7 = .ok (.invokestatic 100, 3) := by decide +kernel
theorem dX10_lit_10 : decode cX10_lit 10 = .ok (.ifCond .eq 7, 3) := by decide +kernel
theorem dX10_lit_13 : decode cX10_lit 13 = .ok (.iconst 1, 1) := by decide +kernel
theorem dX10_lit_14 : decode cX10_lit 14 = .ok (.goto 4, 3) := by decide +kernel
theorem dX10_lit_17 : decode cX10_lit 17 = .ok (.iconst 0, 1) := by decide +kernel
theorem dX10_lit_18 : decode cX10_lit 18 = .ok (.ireturn, 1) := by decide +kernel
theorem dX10_seenBy_0 : decode cX10_seenBy 0 = .ok (.aload_n 0, 1) := by decide +kernel
theorem dX10_seenBy_1 : decode cX10_seenBy 1 = .ok (.iload_n 1, 1) := by decide +kernel
theorem dX10_seenBy_2 : decode cX10_seenBy 2 = .ok (.iload_n 2, 1) := by decide +kernel
theorem dX10_seenBy_3 : decode cX10_seenBy 3 = .ok (.invokevirtual 226, 3) := by decide +kernel
theorem dX10_seenBy_6 : decode cX10_seenBy 6 = .ok (.ifCond .ne 5, 3) := by decide +kernel
theorem dX10_seenBy_9 : decode cX10_seenBy 9 = .ok (.lconst 0, 1) := by decide +kernel
theorem dX10_seenBy_10 : decode cX10_seenBy 10 = .ok (.lreturn, 1) := by decide +kernel
theorem dX10_seenBy_11 : decode cX10_seenBy 11 = .ok (.aload_n 0, 1) := by decide +kernel
theorem dX10_seenBy_12 : decode cX10_seenBy 12 = .ok (.iload_n 1, 1) := by decide +kernel
theorem dX10_seenBy_13 : decode cX10_seenBy 13 = .ok (.iload_n 2, 1) := by decide +kernel
theorem dX10_seenBy_14 : decode cX10_seenBy 14 = .ok (.invokevirtual 220, 3) := by decide +kernel
theorem dX10_seenBy_17 : decode cX10_seenBy 17 = .ok (.istore_n 3, 1) := by decide +kernel
theorem dX10_seenBy_18 : decode cX10_seenBy 18 = .ok (.aload_n 0, 1) := by decide +kernel
theorem dX10_seenBy_19 : decode cX10_seenBy 19 = .ok (.iconst 0, 1) := by decide +kernel
theorem dX10_seenBy_20 : decode cX10_seenBy 20 = .ok (.iconst 0, 1) := by decide +kernel
theorem dX10_seenBy_21 : decode cX10_seenBy 21 = .ok (.aload_n 0, 1) := by decide +kernel
theorem dX10_seenBy_22 : decode cX10_seenBy 22 = .ok (.iload_n 3, 1) := by decide +kernel
theorem dX10_seenBy_23 : decode cX10_seenBy 23 = .ok (.invokevirtual 230, 3) := by decide +kernel
theorem dX10_seenBy_26 : decode cX10_seenBy 26 = .ok (.aload_n 0, 1) := by decide +kernel
theorem dX10_seenBy_27 : decode cX10_seenBy 27 = .ok (.getfield 26, 3) := by decide +kernel
theorem dX10_seenBy_30 : decode cX10_seenBy 30 = .ok (.iload_n 1, 1) := by decide +kernel
theorem dX10_seenBy_31 : decode cX10_seenBy 31 = .ok (.iaload, 1) := by decide +kernel
theorem dX10_seenBy_32 : decode cX10_seenBy 32 = .ok (.iload_n 2, 1) := by decide +kernel
theorem dX10_seenBy_33 : decode cX10_seenBy 33 = .ok (.iload_n 1, 1) := by decide +kernel
theorem dX10_seenBy_34 : decode cX10_seenBy 34 = .ok (.iload_n 3, 1) := by decide +kernel
theorem dX10_seenBy_35 : decode cX10_seenBy 35 = .ok (.invokevirtual 198, 3) := by decide +kernel
theorem dX10_seenBy_38 : decode cX10_seenBy 38 = .ok (.istore 4, 2) := by decide +kernel
theorem dX10_seenBy_40 : decode cX10_seenBy 40 = .ok (.aload_n 0, 1) := by decide +kernel
theorem dX10_seenBy_41 : decode cX10_seenBy 41 = .ok (.iload_n 1, 1) := by decide +kernel
theorem dX10_seenBy_42 : decode cX10_seenBy 42 = .ok (.iload_n 2, 1) := by decide +kernel
theorem dX10_seenBy_43 : decode cX10_seenBy 43 = .ok (.invokevirtual 223, 3) := by decide +kernel
theorem dX10_seenBy_46 : decode cX10_seenBy 46 = .ok (.iconst 3, 1) := by decide +kernel
theorem dX10_seenBy_47 : decode cX10_seenBy 47 = .ok (.iadd, 1) := by decide +kernel
theorem dX10_seenBy_48 : decode cX10_seenBy 48 = .ok (.iconst 4, 1) := by decide +kernel
theorem dX10_seenBy_49 : decode cX10_seenBy 49 = .ok (.irem, 1) := by decide +kernel
theorem dX10_seenBy_50 : decode cX10_seenBy 50 = .ok (.istore 5, 2) := by decide +kernel
theorem dX10_seenBy_52 : decode cX10_seenBy 52 = .ok (.lconst 0, 1) := by decide +kernel
theorem dX10_seenBy_53 : decode cX10_seenBy 53 = .ok (.lstore 6, 2) := by decide +kernel
theorem dX10_seenBy_55 : decode cX10_seenBy 55 = .ok (.aload_n 0, 1) := by decide +kernel
theorem dX10_seenBy_56 : decode cX10_seenBy 56 = .ok (.iload_n 3, 1) := by decide +kernel
theorem dX10_seenBy_57 : decode cX10_seenBy 57 = .ok (.iload 5, 2) := by decide +kernel
theorem dX10_seenBy_59 : decode cX10_seenBy 59 = .ok (.invokevirtual 208, 3) := by decide +kernel
theorem dX10_seenBy_62 : decode cX10_seenBy 62 = .ok (.istore_n 3, 1) := by decide +kernel
theorem dX10_seenBy_63 : decode cX10_seenBy 63 = .ok (.iconst 1, 1) := by decide +kernel
theorem dX10_seenBy_64 : decode cX10_seenBy 64 = .ok (.istore 8, 2) := by decide +kernel
theorem dX10_seenBy_66 : decode cX10_seenBy 66 = .ok (.iload 8, 2) := by decide +kernel
theorem dX10_seenBy_68 : decode cX10_seenBy 68 = .ok (.iload 4, 2) := by decide +kernel
theorem dX10_seenBy_70 : decode cX10_seenBy 70 = .ok (.if_icmp .gt 85, 3) := by decide +kernel
theorem dX10_seenBy_73 : decode cX10_seenBy 73 = .ok (.iload_n 3, 1) := by decide +kernel
theorem dX10_seenBy_74 : decode cX10_seenBy 74 = .ok (.iconst (-1), 1) := by decide +kernel
theorem dX10_seenBy_75 : decode cX10_seenBy 75 = .ok (.if_icmp .eq 80, 3) := by decide +kernel
theorem dX10_seenBy_78 : decode cX10_seenBy 78 = .ok (.lload 6, 2) := by decide +kernel
theorem dX10_seenBy_80 : decode cX10_seenBy 80 = .ok (.aload_n 0, 1) := by decide +kernel
theorem dX10_seenBy_81 : decode cX10_seenBy 81 = .ok (.iconst 1, 1) := by decide +kernel
theorem dX10_seenBy_82 : decode cX10_seenBy 82 = .ok (.iload 8, 2) := by decide +kernel
theorem dX10_seenBy_84 : decode cX10_seenBy 84 = .ok (.aload_n 0, 1) := by decide +kernel
theorem dX10_seenBy_85 : decode cX10_seenBy 85 = .ok (.iload_n 3, 1) := by decide +kernel
theorem dX10_seenBy_86 : decode cX10_seenBy 86 = .ok (.invokevirtual 230, 3) := by decide +kernel
theorem dX10_seenBy_89 : decode cX10_seenBy 89 = .ok (.aload_n 0, 1) := by decide +kernel
theorem dX10_seenBy_90 : decode cX10_seenBy 90 = .ok (.getfield 26, 3) := by decide +kernel
theorem dX10_seenBy_93 : decode cX10_seenBy 93 = .ok (.iload_n 1, 1) := by decide +kernel
theorem dX10_seenBy_94 : decode cX10_seenBy 94 = .ok (.iaload, 1) := by decide +kernel
theorem dX10_seenBy_95 : decode cX10_seenBy 95 = .ok (.iload_n 2, 1) := by decide +kernel
theorem dX10_seenBy_96 : decode cX10_seenBy 96 = .ok (.iload_n 1, 1) := by decide +kernel
theorem dX10_seenBy_97 : decode cX10_seenBy 97 = .ok (.iload_n 3, 1) := by decide +kernel
theorem dX10_seenBy_98 : decode cX10_seenBy 98 = .ok (.invokevirtual 198, 3) := by decide +kernel
theorem dX10_seenBy_101 : decode cX10_seenBy 101 = .ok (.iconst 1, 1) := by decide +kernel
theorem dX10_seenBy_102 : decode cX10_seenBy 102 = .ok (.if_icmp .ne 9, 3) := by decide +kernel
theorem dX10_seenBy_105 : decode cX10_seenBy 105 = .ok (.lconst 1, 1) := by decide +kernel
theorem dX10_seenBy_106 : decode cX10_seenBy 106 = .ok (.iload_n 3, 1) := by decide +kernel
theorem dX10_seenBy_107 : decode cX10_seenBy 107 = .ok (.lshl, 1) := by decide +kernel
theorem dX10_seenBy_108 : decode cX10_seenBy 108 = .ok (.goto 4, 3) := by decide +kernel
theorem dX10_seenBy_111 : decode cX10_seenBy 111 = .ok (.lconst 0, 1) := by decide +kernel
theorem dX10_seenBy_112 : decode cX10_seenBy 112 = .ok (.lor, 1) := by decide +kernel
theorem dX10_seenBy_113 : decode cX10_seenBy 113 = .ok (.lstore 6, 2) := by decide +kernel
theorem dX10_seenBy_115 : decode cX10_seenBy 115 = .ok (.aload_n 0, 1) := by decide +kernel
theorem dX10_seenBy_116 : decode cX10_seenBy 116 = .ok (.getfield 7, 3) := by decide +kernel
theorem dX10_seenBy_119 : decode cX10_seenBy 119 = .ok (.iconst 2, 1) := by decide +kernel
theorem dX10_seenBy_120 : decode cX10_seenBy 120 = .ok (.laload, 1) := by decide +kernel
theorem dX10_seenBy_121 : decode cX10_seenBy 121 = .ok (.iload_n 3, 1) := by decide +kernel
theorem dX10_seenBy_122 : decode cX10_seenBy 122 = .ok (.invokestatic 100, 3) := by decide +kernel
theorem dX10_seenBy_125 : decode cX10_seenBy 125 = .ok (.ifCond .eq 12, 3) := by decide +kernel
theorem dX10_seenBy_128 : decode cX10_seenBy 128 = .ok (.iload 5, 2) := by decide +kernel
theorem dX10_seenBy_130 : decode cX10_seenBy 130 = .ok (.iconst 3, 1) := by decide +kernel
theorem dX10_seenBy_131 : decode cX10_seenBy 131 = .ok (.iadd, 1) := by decide +kernel
theorem dX10_seenBy_132 : decode cX10_seenBy 132 = .ok (.iconst 4, 1) := by decide +kernel
theorem dX10_seenBy_133 : decode cX10_seenBy 133 = .ok (.irem, 1) := by decide +kernel
theorem dX10_seenBy_134 : decode cX10_seenBy 134 = .ok (.goto 5, 3) := by decide +kernel
theorem dX10_seenBy_137 : decode cX10_seenBy 137 = .ok (.iload 5, 2) := by decide +kernel
theorem dX10_seenBy_139 : decode cX10_seenBy 139 = .ok (.istore 5, 2) := by decide +kernel
theorem dX10_seenBy_141 : decode cX10_seenBy 141 = .ok (.aload_n 0, 1) := by decide +kernel
theorem dX10_seenBy_142 : decode cX10_seenBy 142 = .ok (.iload_n 3, 1) := by decide +kernel
theorem dX10_seenBy_143 : decode cX10_seenBy 143 = .ok (.iload 5, 2) := by decide +kernel
theorem dX10_seenBy_145 : decode cX10_seenBy 145 = .ok (.invokevirtual 208, 3) := by decide +kernel
theorem dX10_seenBy_148 : decode cX10_seenBy 148 = .ok (.istore_n 3, 1) := by decide +kernel
theorem dX10_seenBy_149 : decode cX10_seenBy 149 = .ok (.iinc 8 1, 3) := by decide +kernel
theorem dX10_seenBy_152 : decode cX10_seenBy 152 = .ok (.goto (-86), 3) := by decide +kernel
theorem dX10_seenBy_155 : decode cX10_seenBy 155 = .ok (.lload 6, 2) := by decide +kernel
theorem dX10_seenBy_157 : decode cX10_seenBy 157 = .ok (.lreturn, 1) := by decide +kernel
theorem dX10_watches_0 : decode cX10_watches 0 = .ok (.iconst 0, 1) := by decide +kernel
theorem dX10_watches_1 : decode cX10_watches 1 = .ok (.istore_n 2, 1) := by decide +kernel
theorem dX10_watches_2 : decode cX10_watches 2 = .ok (.iload_n 2, 1) := by decide +kernel
theorem dX10_watches_3 : decode cX10_watches 3 = .ok (.bipush 24, 2) := by decide +kernel
theorem dX10_watches_5 : decode cX10_watches 5 = .ok (.if_icmp .ge 35, 3) := by decide +kernel
theorem dX10_watches_8 : decode cX10_watches 8 = .ok (.aload_n 0, 1) := by decide +kernel
theorem dX10_watches_9 : decode cX10_watches 9 = .ok (.getfield 74, 3) := by decide +kernel
theorem dX10_watches_12 : decode cX10_watches 12 = .ok (.bipush 24, 2) := by decide +kernel
theorem dX10_watches_14 : decode cX10_watches 14 = .ok (.iload_n 1, 1) := by decide +kernel
theorem dX10_watches_15 : decode cX10_watches 15 = .ok (.imul, 1) := by decide +kernel
theorem dX10_watches_16 : decode cX10_watches 16 = .ok (.iload_n 2, 1) := by decide +kernel
theorem dX10_watches_17 : decode cX10_watches 17 = .ok (.iadd, 1) := by decide +kernel
theorem dX10_watches_18 : decode cX10_watches 18 = .ok (.aload_n 0, 1) := by decide +kernel
theorem dX10_watches_19 : decode cX10_watches 19 = .ok (.iload_n 1, 1) := by decide +kernel
theorem dX10_watches_20 : decode cX10_watches 20 = .ok (.iload_n 2, 1) := by decide +kernel
theorem dX10_watches_21 : decode cX10_watches 21 = .ok (.invokevirtual 233, 3) := by decide +kernel
theorem dX10_watches_24 : decode cX10_watches 24 = .ok (.lconst 1, 1) := by decide +kernel
theorem dX10_watches_25 : decode cX10_watches 25 = .ok (.aload_n 0, 1) := by decide +kernel
theorem dX10_watches_26 : decode cX10_watches 26 = .ok (.iload_n 1, 1) := by decide +kernel
theorem dX10_watches_27 : decode cX10_watches 27 = .ok (.iload_n 2, 1) := by decide +kernel
theorem dX10_watches_28 : decode cX10_watches 28 = .ok (.invokevirtual 220, 3) := by decide +kernel
theorem dX10_watches_31 : decode cX10_watches 31 = .ok (.lshl, 1) := by decide +kernel
theorem dX10_watches_32 : decode cX10_watches 32 = .ok (.lor, 1) := by decide +kernel
theorem dX10_watches_33 : decode cX10_watches 33 = .ok (.lastore, 1) := by decide +kernel
theorem dX10_watches_34 : decode cX10_watches 34 = .ok (.iinc 2 1, 3) := by decide +kernel
theorem dX10_watches_37 : decode cX10_watches 37 = .ok (.goto (-35), 3) := by decide +kernel
theorem dX10_watches_40 : decode cX10_watches 40 = .ok (.return_, 1) := by decide +kernel
theorem dX10_watchesAll_0 : decode cX10_watchesAll 0 = .ok (.iconst 0, 1) := by decide +kernel
theorem dX10_watchesAll_1 : decode cX10_watchesAll 1 = .ok (.istore_n 1, 1) := by decide +kernel
theorem dX10_watchesAll_2 : decode cX10_watchesAll 2 = .ok (.iload_n 1, 1) := by decide +kernel
theorem dX10_watchesAll_3 : decode cX10_watchesAll 3 = .ok (.aload_n 0, 1) := by decide +kernel
theorem dX10_watchesAll_4 : decode cX10_watchesAll 4 = .ok (.getfield 97, 3) := by decide +kernel
theorem dX10_watchesAll_7 : decode cX10_watchesAll 7 = .ok (.if_icmp .ge 14, 3) := by decide +kernel
theorem dX10_watchesAll_10 : decode cX10_watchesAll 10 = .ok (.aload_n 0, 1) := by decide +kernel
theorem dX10_watchesAll_11 : decode cX10_watchesAll 11 = .ok (.iload_n 1, 1) := by decide +kernel
theorem dX10_watchesAll_12 : decode cX10_watchesAll 12 = .ok (.invokevirtual 237, 3) := by decide +kernel
theorem dX10_watchesAll_15 : decode cX10_watchesAll 15 = .ok (.iinc 1 1, 3) := by decide +kernel
theorem dX10_watchesAll_18 : decode cX10_watchesAll 18 = .ok (.goto (-16), 3) := by decide +kernel
theorem dX10_watchesAll_21 : decode cX10_watchesAll 21 = .ok (.return_, 1) := by decide +kernel
theorem dX10_seenAt_0 : decode cX10_seenAt 0 = .ok (.lconst 0, 1) := by decide +kernel
theorem dX10_seenAt_1 : decode cX10_seenAt 1 = .ok (.lstore_n 3, 1) := by decide +kernel
theorem dX10_seenAt_2 : decode cX10_seenAt 2 = .ok (.iconst 0, 1) := by decide +kernel
theorem dX10_seenAt_3 : decode cX10_seenAt 3 = .ok (.istore 5, 2) := by decide +kernel
theorem dX10_seenAt_5 : decode cX10_seenAt 5 = .ok (.iload 5, 2) := by decide +kernel
theorem dX10_seenAt_7 : decode cX10_seenAt 7 = .ok (.aload_n 0, 1) := by decide +kernel
theorem dX10_seenAt_8 : decode cX10_seenAt 8 = .ok (.getfield 97, 3) := by decide +kernel
theorem dX10_seenAt_11 : decode cX10_seenAt 11 = .ok (.if_icmp .ge 38, 3) := by decide +kernel
theorem dX10_seenAt_14 : decode cX10_seenAt 14 = .ok (.lload_n 3, 1) := by decide +kernel
theorem dX10_seenAt_15 : decode cX10_seenAt 15 = .ok (.iload_n 2, 1) := by decide +kernel
theorem dX10_seenAt_16 : decode cX10_seenAt 16 = .ok (.iload 5, 2) := by decide +kernel
theorem dX10_seenAt_18 : decode cX10_seenAt 18 = .ok (.ishr, 1) := by decide +kernel
theorem dX10_seenAt_19 : decode cX10_seenAt 19 = .ok (.iconst 1, 1) := by decide +kernel
theorem dX10_seenAt_20 : decode cX10_seenAt 20 = .ok (.iand, 1) := by decide +kernel
theorem dX10_seenAt_21 : decode cX10_seenAt 21 = .ok (.iconst 1, 1) := by decide +kernel
theorem dX10_seenAt_22 : decode cX10_seenAt 22 = .ok (.if_icmp .ne 18, 3) := by decide +kernel
theorem dX10_seenAt_25 : decode cX10_seenAt 25 = .ok (.aload_n 0, 1) := by decide +kernel
theorem dX10_seenAt_26 : decode cX10_seenAt 26 = .ok (.getfield 74, 3) := by decide +kernel
theorem dX10_seenAt_29 : decode cX10_seenAt 29 = .ok (.bipush 24, 2) := by decide +kernel
theorem dX10_seenAt_31 : decode cX10_seenAt 31 = .ok (.iload 5, 2) := by decide +kernel
theorem dX10_seenAt_33 : decode cX10_seenAt 33 = .ok (.imul, 1) := by decide +kernel
theorem dX10_seenAt_34 : decode cX10_seenAt 34 = .ok (.iload_n 1, 1) := by decide +kernel
theorem dX10_seenAt_35 : decode cX10_seenAt 35 = .ok (.iadd, 1) := by decide +kernel
theorem dX10_seenAt_36 : decode cX10_seenAt 36 = .ok (.laload, 1) := by decide +kernel
theorem dX10_seenAt_37 : decode cX10_seenAt 37 = .ok (.goto 4, 3) := by decide +kernel
theorem dX10_seenAt_40 : decode cX10_seenAt 40 = .ok (.lconst 0, 1) := by decide +kernel
theorem dX10_seenAt_41 : decode cX10_seenAt 41 = .ok (.lor, 1) := by decide +kernel
theorem dX10_seenAt_42 : decode cX10_seenAt 42 = .ok (.lstore_n 3, 1) := by decide +kernel
theorem dX10_seenAt_43 : decode cX10_seenAt 43 = .ok (.iinc 5 1, 3) := by decide +kernel
theorem dX10_seenAt_46 : decode cX10_seenAt 46 = .ok (.goto (-41), 3) := by decide +kernel
theorem dX10_seenAt_49 : decode cX10_seenAt 49 = .ok (.lload_n 3, 1) := by decide +kernel
theorem dX10_seenAt_50 : decode cX10_seenAt 50 = .ok (.lreturn, 1) := by decide +kernel
theorem dX10_allGuards_0 : decode cX10_allGuards 0 = .ok (.iconst 1, 1) := by decide +kernel
theorem dX10_allGuards_1 : decode cX10_allGuards 1 = .ok (.aload_n 0, 1) := by decide +kernel
theorem dX10_allGuards_2 : decode cX10_allGuards 2 = .ok (.getfield 97, 3) := by decide +kernel
theorem dX10_allGuards_5 : decode cX10_allGuards 5 = .ok (.ishl, 1) := by decide +kernel
theorem dX10_allGuards_6 : decode cX10_allGuards 6 = .ok (.iconst 1, 1) := by decide +kernel
theorem dX10_allGuards_7 : decode cX10_allGuards 7 = .ok (.isub, 1) := by decide +kernel
theorem dX10_allGuards_8 : decode cX10_allGuards 8 = .ok (.ireturn, 1) := by decide +kernel
theorem dX10_sees_0 : decode cX10_sees 0 = .ok (.aload_n 0, 1) := by decide +kernel
theorem dX10_sees_1 : decode cX10_sees 1 = .ok (.iload_n 1, 1) := by decide +kernel
theorem dX10_sees_2 : decode cX10_sees 2 = .ok (.invokevirtual 202, 3) := by decide +kernel
theorem dX10_sees_5 : decode cX10_sees 5 = .ok (.ifCond .eq 19, 3) := by decide +kernel
theorem dX10_sees_8 : decode cX10_sees 8 = .ok (.iload_n 2, 1) := by decide +kernel
theorem dX10_sees_9 : decode cX10_sees 9 = .ok (.invokestatic 195, 3) := by decide +kernel
theorem dX10_sees_12 : decode cX10_sees 12 = .ok (.ifCond .eq 12, 3) := by decide +kernel
theorem dX10_sees_15 : decode cX10_sees 15 = .ok (.aload_n 0, 1) := by decide +kernel
theorem dX10_sees_16 : decode cX10_sees 16 = .ok (.iload_n 1, 1) := by decide +kernel
theorem dX10_sees_17 : decode cX10_sees 17 = .ok (.iload_n 2, 1) := by decide +kernel
theorem dX10_sees_18 : decode cX10_sees 18 = .ok (.invokevirtual 233, 3) := by decide +kernel
theorem dX10_sees_21 : decode cX10_sees 21 = .ok (.goto 6, 3) := by decide +kernel
theorem dX10_sees_24 : decode cX10_sees 24 = .ok (.ldc2_w 108, 3) := by decide +kernel
theorem dX10_sees_27 : decode cX10_sees 27 = .ok (.lreturn, 1) := by decide +kernel
theorem dX10_watched_0 : decode cX10_watched 0 = .ok (.iload_n 1, 1) := by decide +kernel
theorem dX10_watched_1 : decode cX10_watched 1 = .ok (.invokestatic 195, 3) := by decide +kernel
theorem dX10_watched_4 : decode cX10_watched 4 = .ok (.ifCond .ne 7, 3) := by decide +kernel
theorem dX10_watched_7 : decode cX10_watched 7 = .ok (.ldc2_w 108, 3) := by decide +kernel
theorem dX10_watched_10 : decode cX10_watched 10 = .ok (.lreturn, 1) := by decide +kernel
theorem dX10_watched_11 : decode cX10_watched 11 = .ok (.aload_n 0, 1) := by decide +kernel
theorem dX10_watched_12 : decode cX10_watched 12 = .ok (.invokevirtual 240, 3) := by decide +kernel
theorem dX10_watched_15 : decode cX10_watched 15 = .ok (.aload_n 0, 1) := by decide +kernel
theorem dX10_watched_16 : decode cX10_watched 16 = .ok (.iload_n 1, 1) := by decide +kernel
theorem dX10_watched_17 : decode cX10_watched 17 = .ok (.aload_n 0, 1) := by decide +kernel
theorem dX10_watched_18 : decode cX10_watched 18 = .ok (.invokevirtual 243, 3) := by decide +kernel
theorem dX10_watched_21 : decode cX10_watched 21 = .ok (.invokevirtual 246, 3) := by decide +kernel
theorem dX10_watched_24 : decode cX10_watched 24 = .ok (.lreturn, 1) := by decide +kernel
theorem dX10_aloneBy_0 : decode cX10_aloneBy 0 = .ok (.iconst 0, 1) := by decide +kernel
theorem dX10_aloneBy_1 : decode cX10_aloneBy 1 = .ok (.istore_n 3, 1) := by decide +kernel
theorem dX10_aloneBy_2 : decode cX10_aloneBy 2 = .ok (.iconst 0, 1) := by decide +kernel
theorem dX10_aloneBy_3 : decode cX10_aloneBy 3 = .ok (.istore 4, 2) := by decide +kernel
theorem dX10_aloneBy_5 : decode cX10_aloneBy 5 = .ok (.iload 4, 2) := by decide +kernel
theorem dX10_aloneBy_7 : decode cX10_aloneBy 7 = .ok (.bipush 24, 2) := by decide +kernel
theorem dX10_aloneBy_9 : decode cX10_aloneBy 9 = .ok (.if_icmp .ge 34, 3) := by decide +kernel
theorem dX10_aloneBy_12 : decode cX10_aloneBy 12 = .ok (.iload_n 3, 1) := by decide +kernel
theorem dX10_aloneBy_13 : decode cX10_aloneBy 13 = .ok (.aload_n 0, 1) := by decide +kernel
theorem dX10_aloneBy_14 : decode cX10_aloneBy 14 = .ok (.iload 4, 2) := by decide +kernel
theorem dX10_aloneBy_16 : decode cX10_aloneBy 16 = .ok (.iload_n 2, 1) := by decide +kernel
theorem dX10_aloneBy_17 : decode cX10_aloneBy 17 = .ok (.invokevirtual 246, 3) := by decide +kernel
theorem dX10_aloneBy_20 : decode cX10_aloneBy 20 = .ok (.iload_n 1, 1) := by decide +kernel
theorem dX10_aloneBy_21 : decode cX10_aloneBy 21 = .ok (.invokestatic 100, 3) := by decide +kernel
theorem dX10_aloneBy_24 : decode cX10_aloneBy 24 = .ok (.ifCond .eq 7, 3) := by decide +kernel
theorem dX10_aloneBy_27 : decode cX10_aloneBy 27 = .ok (.iconst 0, 1) := by decide +kernel
theorem dX10_aloneBy_28 : decode cX10_aloneBy 28 = .ok (.goto 7, 3) := by decide +kernel
theorem dX10_aloneBy_31 : decode cX10_aloneBy 31 = .ok (.iconst 1, 1) := by decide +kernel
theorem dX10_aloneBy_32 : decode cX10_aloneBy 32 = .ok (.iload 4, 2) := by decide +kernel
theorem dX10_aloneBy_34 : decode cX10_aloneBy 34 = .ok (.ishl, 1) := by decide +kernel
theorem dX10_aloneBy_35 : decode cX10_aloneBy 35 = .ok (.ior, 1) := by decide +kernel
theorem dX10_aloneBy_36 : decode cX10_aloneBy 36 = .ok (.istore_n 3, 1) := by decide +kernel
theorem dX10_aloneBy_37 : decode cX10_aloneBy 37 = .ok (.iinc 4 1, 3) := by decide +kernel
theorem dX10_aloneBy_40 : decode cX10_aloneBy 40 = .ok (.goto (-35), 3) := by decide +kernel
theorem dX10_aloneBy_43 : decode cX10_aloneBy 43 = .ok (.iload_n 3, 1) := by decide +kernel
theorem dX10_aloneBy_44 : decode cX10_aloneBy 44 = .ok (.ireturn, 1) := by decide +kernel
theorem dX10_gapOf_0 : decode cX10_gapOf 0 = .ok (.iconst 0, 1) := by decide +kernel
theorem dX10_gapOf_1 : decode cX10_gapOf 1 = .ok (.istore_n 1, 1) := by decide +kernel
theorem dX10_gapOf_2 : decode cX10_gapOf 2 = .ok (.iconst 0, 1) := by decide +kernel
theorem dX10_gapOf_3 : decode cX10_gapOf 3 = .ok (.istore_n 2, 1) := by decide +kernel
theorem dX10_gapOf_4 : decode cX10_gapOf 4 = .ok (.iconst 0, 1) := by decide +kernel
theorem dX10_gapOf_5 : decode cX10_gapOf 5 = .ok (.istore_n 3, 1) := by decide +kernel
theorem dX10_gapOf_6 : decode cX10_gapOf 6 = .ok (.iload_n 3, 1) := by decide +kernel
theorem dX10_gapOf_7 : decode cX10_gapOf 7 = .ok (.bipush 48, 2) := by decide +kernel
theorem dX10_gapOf_9 : decode cX10_gapOf 9 = .ok (.if_icmp .ge 40, 3) := by decide +kernel
theorem dX10_gapOf_12 : decode cX10_gapOf 12 = .ok (.iload_n 0, 1) := by decide +kernel
theorem dX10_gapOf_13 : decode cX10_gapOf 13 = .ok (.iload_n 3, 1) := by decide +kernel
theorem dX10_gapOf_14 : decode cX10_gapOf 14 = .ok (.bipush 24, 2) := by decide +kernel
theorem dX10_gapOf_16 : decode cX10_gapOf 16 = .ok (.irem, 1) := by decide +kernel
theorem dX10_gapOf_17 : decode cX10_gapOf 17 = .ok (.ishr, 1) := by decide +kernel
theorem dX10_gapOf_18 : decode cX10_gapOf 18 = .ok (.iconst 1, 1) := by decide +kernel
theorem dX10_gapOf_19 : decode cX10_gapOf 19 = .ok (.iand, 1) := by decide +kernel
theorem dX10_gapOf_20 : decode cX10_gapOf 20 = .ok (.iconst 1, 1) := by decide +kernel
theorem dX10_gapOf_21 : decode cX10_gapOf 21 = .ok (.if_icmp .ne 9, 3) := by decide +kernel
theorem dX10_gapOf_24 : decode cX10_gapOf 24 = .ok (.iload_n 2, 1) := by decide +kernel
theorem dX10_gapOf_25 : decode cX10_gapOf 25 = .ok (.iconst 1, 1) := by decide +kernel
theorem dX10_gapOf_26 : decode cX10_gapOf 26 = .ok (.iadd, 1) := by decide +kernel
theorem dX10_gapOf_27 : decode cX10_gapOf 27 = .ok (.goto 4, 3) := by decide +kernel
theorem dX10_gapOf_30 : decode cX10_gapOf 30 = .ok (.iconst 0, 1) := by decide +kernel
theorem dX10_gapOf_31 : decode cX10_gapOf 31 = .ok (.istore_n 2, 1) := by decide +kernel
theorem dX10_gapOf_32 : decode cX10_gapOf 32 = .ok (.iload_n 2, 1) := by decide +kernel
theorem dX10_gapOf_33 : decode cX10_gapOf 33 = .ok (.iload_n 1, 1) := by decide +kernel
theorem dX10_gapOf_34 : decode cX10_gapOf 34 = .ok (.if_icmp .le 7, 3) := by decide +kernel
theorem dX10_gapOf_37 : decode cX10_gapOf 37 = .ok (.iload_n 2, 1) := by decide +kernel
theorem dX10_gapOf_38 : decode cX10_gapOf 38 = .ok (.goto 4, 3) := by decide +kernel
theorem dX10_gapOf_41 : decode cX10_gapOf 41 = .ok (.iload_n 1, 1) := by decide +kernel
theorem dX10_gapOf_42 : decode cX10_gapOf 42 = .ok (.istore_n 1, 1) := by decide +kernel
theorem dX10_gapOf_43 : decode cX10_gapOf 43 = .ok (.iinc 3 1, 3) := by decide +kernel
theorem dX10_gapOf_46 : decode cX10_gapOf 46 = .ok (.goto (-40), 3) := by decide +kernel
theorem dX10_gapOf_49 : decode cX10_gapOf 49 = .ok (.iload_n 1, 1) := by decide +kernel
theorem dX10_gapOf_50 : decode cX10_gapOf 50 = .ok (.bipush 24, 2) := by decide +kernel
theorem dX10_gapOf_52 : decode cX10_gapOf 52 = .ok (.if_icmp .le 8, 3) := by decide +kernel
theorem dX10_gapOf_55 : decode cX10_gapOf 55 = .ok (.bipush 24, 2) := by decide +kernel
theorem dX10_gapOf_57 : decode cX10_gapOf 57 = .ok (.goto 4, 3) := by decide +kernel
theorem dX10_gapOf_60 : decode cX10_gapOf 60 = .ok (.iload_n 1, 1) := by decide +kernel
theorem dX10_gapOf_61 : decode cX10_gapOf 61 = .ok (.ireturn, 1) := by decide +kernel
theorem dX10_alone_0 : decode cX10_alone 0 = .ok (.iload_n 1, 1) := by decide +kernel
theorem dX10_alone_1 : decode cX10_alone 1 = .ok (.invokestatic 110, 3) := by decide +kernel
theorem dX10_alone_4 : decode cX10_alone 4 = .ok (.ifCond .ne 6, 3) := by decide +kernel
theorem dX10_alone_7 : decode cX10_alone 7 = .ok (.bipush (-5), 2) := by decide +kernel
theorem dX10_alone_9 : decode cX10_alone 9 = .ok (.ireturn, 1) := by decide +kernel
theorem dX10_alone_10 : decode cX10_alone 10 = .ok (.aload_n 0, 1) := by decide +kernel
theorem dX10_alone_11 : decode cX10_alone 11 = .ok (.invokevirtual 240, 3) := by decide +kernel
theorem dX10_alone_14 : decode cX10_alone 14 = .ok (.aload_n 0, 1) := by decide +kernel
theorem dX10_alone_15 : decode cX10_alone 15 = .ok (.iload_n 1, 1) := by decide +kernel
theorem dX10_alone_16 : decode cX10_alone 16 = .ok (.aload_n 0, 1) := by decide +kernel
theorem dX10_alone_17 : decode cX10_alone 17 = .ok (.invokevirtual 243, 3) := by decide +kernel
theorem dX10_alone_20 : decode cX10_alone 20 = .ok (.invokevirtual 249, 3) := by decide +kernel
theorem dX10_alone_23 : decode cX10_alone 23 = .ok (.ireturn, 1) := by decide +kernel
theorem dX10_unseen_0 : decode cX10_unseen 0 = .ok (.iload_n 1, 1) := by decide +kernel
theorem dX10_unseen_1 : decode cX10_unseen 1 = .ok (.invokestatic 110, 3) := by decide +kernel
theorem dX10_unseen_4 : decode cX10_unseen 4 = .ok (.ifCond .eq 14, 3) := by decide +kernel
theorem dX10_unseen_7 : decode cX10_unseen 7 = .ok (.aload_n 0, 1) := by decide +kernel
theorem dX10_unseen_8 : decode cX10_unseen 8 = .ok (.iload_n 1, 1) := by decide +kernel
theorem dX10_unseen_9 : decode cX10_unseen 9 = .ok (.invokevirtual 252, 3) := by decide +kernel
theorem dX10_unseen_12 : decode cX10_unseen 12 = .ok (.invokestatic 255, 3) := by decide +kernel
theorem dX10_unseen_15 : decode cX10_unseen 15 = .ok (.goto 5, 3) := by decide +kernel
theorem dX10_unseen_18 : decode cX10_unseen 18 = .ok (.bipush (-5), 2) := by decide +kernel
theorem dX10_unseen_20 : decode cX10_unseen 20 = .ok (.ireturn, 1) := by decide +kernel
theorem dX10_findsGaps_0 : decode cX10_findsGaps 0 = .ok (.aload_n 0, 1) := by decide +kernel
theorem dX10_findsGaps_1 : decode cX10_findsGaps 1 = .ok (.iconst (-1), 1) := by decide +kernel
theorem dX10_findsGaps_2 : decode cX10_findsGaps 2 = .ok (.putfield 258, 3) := by decide +kernel
theorem dX10_findsGaps_5 : decode cX10_findsGaps 5 = .ok (.aload_n 0, 1) := by decide +kernel
theorem dX10_findsGaps_6 : decode cX10_findsGaps 6 = .ok (.iconst 0, 1) := by decide +kernel
theorem dX10_findsGaps_7 : decode cX10_findsGaps 7 = .ok (.putfield 261, 3) := by decide +kernel
theorem dX10_findsGaps_10 : decode cX10_findsGaps 10 = .ok (.aload_n 0, 1) := by decide +kernel
theorem dX10_findsGaps_11 : decode cX10_findsGaps 11 = .ok (.iconst 0, 1) := by decide +kernel
theorem dX10_findsGaps_12 : decode cX10_findsGaps 12 = .ok (.putfield 264, 3) := by decide +kernel
theorem dX10_findsGaps_15 : decode cX10_findsGaps 15 = .ok (.iconst 0, 1) := by decide +kernel
theorem dX10_findsGaps_16 : decode cX10_findsGaps 16 = .ok (.istore_n 1, 1) := by decide +kernel
theorem dX10_findsGaps_17 : decode cX10_findsGaps 17 = .ok (.iload_n 1, 1) := by decide +kernel
theorem dX10_findsGaps_18 : decode cX10_findsGaps 18 = .ok (.bipush 36, 2) := by decide +kernel
theorem dX10_findsGaps_20 : decode cX10_findsGaps 20 = .ok (.if_icmp .ge 109, 3) := by decide +kernel
theorem dX10_findsGaps_23 : decode cX10_findsGaps 23 = .ok (.aload_n 0, 1) := by decide +kernel
theorem dX10_findsGaps_24 : decode cX10_findsGaps 24 = .ok (.getfield 7, 3) := by decide +kernel
theorem dX10_findsGaps_27 : decode cX10_findsGaps 27 = .ok (.iconst 0, 1) := by decide +kernel
theorem dX10_findsGaps_28 : decode cX10_findsGaps 28 = .ok (.laload, 1) := by decide +kernel
theorem dX10_findsGaps_29 : decode cX10_findsGaps 29 = .ok (.iload_n 1, 1) := by decide +kernel
theorem dX10_findsGaps_30 : decode cX10_findsGaps 30 = .ok (.invokestatic 100, 3) := by decide +kernel
theorem dX10_findsGaps_33 : decode cX10_findsGaps 33 = .ok (.ifCond .ne 90, 3) := by decide +kernel
theorem dX10_findsGaps_36 : decode cX10_findsGaps 36 = .ok (.aload_n 0, 1) := by decide +kernel
theorem dX10_findsGaps_37 : decode cX10_findsGaps 37 = .ok (.iload_n 1, 1) := by decide +kernel
theorem dX10_findsGaps_38 : decode cX10_findsGaps 38 = .ok (.aload_n 0, 1) := by decide +kernel
theorem dX10_findsGaps_39 : decode cX10_findsGaps 39 = .ok (.invokevirtual 243, 3) := by decide +kernel
theorem dX10_findsGaps_42 : decode cX10_findsGaps 42 = .ok (.invokevirtual 249, 3) := by decide +kernel
theorem dX10_findsGaps_45 : decode cX10_findsGaps 45 = .ok (.invokestatic 255, 3) := by decide +kernel
theorem dX10_findsGaps_48 : decode cX10_findsGaps 48 = .ok (.istore_n 2, 1) := by decide +kernel
theorem dX10_findsGaps_49 : decode cX10_findsGaps 49 = .ok (.aload_n 0, 1) := by decide +kernel
theorem dX10_findsGaps_50 : decode cX10_findsGaps 50 = .ok (.getfield 258, 3) := by decide +kernel
theorem dX10_findsGaps_53 : decode cX10_findsGaps 53 = .ok (.iconst (-1), 1) := by decide +kernel
theorem dX10_findsGaps_54 : decode cX10_findsGaps 54 = .ok (.if_icmp .eq 11, 3) := by decide +kernel
theorem dX10_findsGaps_57 : decode cX10_findsGaps 57 = .ok (.iload_n 2, 1) := by decide +kernel
theorem dX10_findsGaps_58 : decode cX10_findsGaps 58 = .ok (.aload_n 0, 1) := by decide +kernel
theorem dX10_findsGaps_59 : decode cX10_findsGaps 59 = .ok (.getfield 261, 3) := by decide +kernel
theorem dX10_findsGaps_62 : decode cX10_findsGaps 62 = .ok (.if_icmp .le 7, 3) := by decide +kernel
theorem dX10_findsGaps_65 : decode cX10_findsGaps 65 = .ok (.iconst 1, 1) := by decide +kernel
theorem dX10_findsGaps_66 : decode cX10_findsGaps 66 = .ok (.goto 4, 3) := by decide +kernel
theorem dX10_findsGaps_69 : decode cX10_findsGaps 69 = .ok (.iconst 0, 1) := by decide +kernel
theorem dX10_findsGaps_70 : decode cX10_findsGaps 70 = .ok (.istore_n 3, 1) := by decide +kernel
theorem dX10_findsGaps_71 : decode cX10_findsGaps 71 = .ok (.aload_n 0, 1) := by decide +kernel
theorem dX10_findsGaps_72 : decode cX10_findsGaps 72 = .ok (.iload_n 3, 1) := by decide +kernel
theorem dX10_findsGaps_73 : decode cX10_findsGaps 73 = .ok (.ifCond .eq 7, 3) := by decide +kernel
theorem dX10_findsGaps_76 : decode cX10_findsGaps 76 = .ok (.iload_n 1, 1) := by decide +kernel
theorem dX10_findsGaps_77 : decode cX10_findsGaps 77 = .ok (.goto 7, 3) := by decide +kernel
theorem dX10_findsGaps_80 : decode cX10_findsGaps 80 = .ok (.aload_n 0, 1) := by decide +kernel
theorem dX10_findsGaps_81 : decode cX10_findsGaps 81 = .ok (.getfield 258, 3) := by decide +kernel
theorem dX10_findsGaps_84 : decode cX10_findsGaps 84 = .ok (.putfield 258, 3) := by decide +kernel
theorem dX10_findsGaps_87 : decode cX10_findsGaps 87 = .ok (.aload_n 0, 1) := by decide +kernel
theorem dX10_findsGaps_88 : decode cX10_findsGaps 88 = .ok (.iload_n 3, 1) := by decide +kernel
theorem dX10_findsGaps_89 : decode cX10_findsGaps 89 = .ok (.ifCond .eq 7, 3) := by decide +kernel
theorem dX10_findsGaps_92 : decode cX10_findsGaps 92 = .ok (.iload_n 2, 1) := by decide +kernel
theorem dX10_findsGaps_93 : decode cX10_findsGaps 93 = .ok (.goto 7, 3) := by decide +kernel
theorem dX10_findsGaps_96 : decode cX10_findsGaps 96 = .ok (.aload_n 0, 1) := by decide +kernel
theorem dX10_findsGaps_97 : decode cX10_findsGaps 97 = .ok (.getfield 261, 3) := by decide +kernel
theorem dX10_findsGaps_100 : decode cX10_findsGaps 100 = .ok (.putfield 261, 3) := by decide +kernel
theorem dX10_findsGaps_103 : decode cX10_findsGaps 103 = .ok (.aload_n 0, 1) := by decide +kernel
theorem dX10_findsGaps_104 : decode cX10_findsGaps 104 = .ok (.dup, 1) := by decide +kernel
theorem dX10_findsGaps_105 : decode cX10_findsGaps 105 = .ok (.getfield 264, 3) := by decide +kernel
theorem dX10_findsGaps_108 : decode cX10_findsGaps 108 = .ok (.iload_n 2, 1) := by decide +kernel
theorem dX10_findsGaps_109 : decode cX10_findsGaps 109 = .ok (.bipush 24, 2) := by decide +kernel
theorem dX10_findsGaps_111 : decode cX10_findsGaps 111 = .ok (.if_icmp .ne 7, 3) := by decide +kernel
theorem dX10_findsGaps_114 : decode cX10_findsGaps 114 = .ok (.iconst 1, 1) := by decide +kernel
theorem dX10_findsGaps_115 : decode cX10_findsGaps 115 = .ok (.goto 4, 3) := by decide +kernel
theorem dX10_findsGaps_118 : decode cX10_findsGaps 118 = .ok (.iconst 0, 1) := by decide +kernel
theorem dX10_findsGaps_119 : decode cX10_findsGaps 119 = .ok (.iadd, 1) := by decide +kernel
theorem dX10_findsGaps_120 : decode cX10_findsGaps 120 = .ok (.putfield 264, 3) := by decide +kernel
theorem dX10_findsGaps_123 : decode cX10_findsGaps 123 = .ok (.iinc 1 1, 3) := by decide +kernel
theorem dX10_findsGaps_126 : decode cX10_findsGaps 126 = .ok (.goto (-109), 3) := by decide +kernel
theorem dX10_findsGaps_129 : decode cX10_findsGaps 129 = .ok (.return_, 1) := by decide +kernel
theorem dX10_worthUnseen_0 : decode cX10_worthUnseen 0 = .ok (.iconst 0, 1) := by decide +kernel
theorem dX10_worthUnseen_1 : decode cX10_worthUnseen 1 = .ok (.istore_n 1, 1) := by decide +kernel
theorem dX10_worthUnseen_2 : decode cX10_worthUnseen 2 = .ok (.iconst 0, 1) := by decide +kernel
theorem dX10_worthUnseen_3 : decode cX10_worthUnseen 3 = .ok (.istore_n 2, 1) := by decide +kernel
theorem dX10_worthUnseen_4 : decode cX10_worthUnseen 4 = .ok (.iload_n 2, 1) := by decide +kernel
theorem dX10_worthUnseen_5 : decode cX10_worthUnseen 5 = .ok (.bipush 24, 2) := by decide +kernel
theorem dX10_worthUnseen_7 : decode cX10_worthUnseen 7 = .ok (.if_icmp .ge 75, 3) := by decide +kernel
theorem dX10_worthUnseen_10 : decode cX10_worthUnseen 10 = .ok (.aload_n 0, 1) := by decide +kernel
theorem dX10_worthUnseen_11 : decode cX10_worthUnseen 11 = .ok (.iload_n 2, 1) := by decide +kernel
theorem dX10_worthUnseen_12 : decode cX10_worthUnseen 12 = .ok (.aload_n 0, 1) := by decide +kernel
theorem dX10_worthUnseen_13 : decode cX10_worthUnseen 13 = .ok (.invokevirtual 243, 3) := by decide +kernel
theorem dX10_worthUnseen_16 : decode cX10_worthUnseen 16 = .ok (.invokevirtual 246, 3) := by decide +kernel
theorem dX10_worthUnseen_19 : decode cX10_worthUnseen 19 = .ok (.aload_n 0, 1) := by decide +kernel
theorem dX10_worthUnseen_20 : decode cX10_worthUnseen 20 = .ok (.getfield 7, 3) := by decide +kernel
theorem dX10_worthUnseen_23 : decode cX10_worthUnseen 23 = .ok (.iconst 0, 1) := by decide +kernel
theorem dX10_worthUnseen_24 : decode cX10_worthUnseen 24 = .ok (.laload, 1) := by decide +kernel
theorem dX10_worthUnseen_25 : decode cX10_worthUnseen 25 = .ok (.lor, 1) := by decide +kernel
theorem dX10_worthUnseen_26 : decode cX10_worthUnseen 26 = .ok (.lstore_n 3, 1) := by decide +kernel
theorem dX10_worthUnseen_27 : decode cX10_worthUnseen 27 = .ok (.iconst 0, 1) := by decide +kernel
theorem dX10_worthUnseen_28 : decode cX10_worthUnseen 28 = .ok (.istore 5, 2) := by decide +kernel
theorem dX10_worthUnseen_30 : decode cX10_worthUnseen 30 = .ok (.iload 5, 2) := by decide +kernel
theorem dX10_worthUnseen_32 : decode cX10_worthUnseen 32 = .ok (.bipush 36, 2) := by decide +kernel
theorem dX10_worthUnseen_34 : decode cX10_worthUnseen 34 = .ok (.if_icmp .ge 42, 3) := by decide +kernel
theorem dX10_worthUnseen_37 : decode cX10_worthUnseen 37 = .ok (.iload_n 1, 1) := by decide +kernel
theorem dX10_worthUnseen_38 : decode cX10_worthUnseen 38 = .ok (.lload_n 3, 1) := by decide +kernel
theorem dX10_worthUnseen_39 : decode cX10_worthUnseen 39 = .ok (.iload 5, 2) := by decide +kernel
theorem dX10_worthUnseen_41 : decode cX10_worthUnseen 41 = .ok (.invokestatic 100, 3) := by decide +kernel
theorem dX10_worthUnseen_44 : decode cX10_worthUnseen 44 = .ok (.ifCond .eq 7, 3) := by decide +kernel
theorem dX10_worthUnseen_47 : decode cX10_worthUnseen 47 = .ok (.iconst 0, 1) := by decide +kernel
theorem dX10_worthUnseen_48 : decode cX10_worthUnseen 48 = .ok (.goto 20, 3) := by decide +kernel
theorem dX10_worthUnseen_51 : decode cX10_worthUnseen 51 = .ok (.aload_n 0, 1) := by decide +kernel
theorem dX10_worthUnseen_52 : decode cX10_worthUnseen 52 = .ok (.iconst 2, 1) := by decide +kernel
theorem dX10_worthUnseen_53 : decode cX10_worthUnseen 53 = .ok (.iconst 0, 1) := by decide +kernel
theorem dX10_worthUnseen_54 : decode cX10_worthUnseen 54 = .ok (.aload_n 0, 1) := by decide +kernel
theorem dX10_worthUnseen_55 : decode cX10_worthUnseen 55 = .ok (.iload 5, 2) := by decide +kernel
theorem dX10_worthUnseen_57 : decode cX10_worthUnseen 57 = .ok (.invokevirtual 230, 3) := by decide +kernel
theorem dX10_worthUnseen_60 : decode cX10_worthUnseen 60 = .ok (.iconst 0, 1) := by decide +kernel
theorem dX10_worthUnseen_61 : decode cX10_worthUnseen 61 = .ok (.iload_n 2, 1) := by decide +kernel
theorem dX10_worthUnseen_62 : decode cX10_worthUnseen 62 = .ok (.iconst 0, 1) := by decide +kernel
theorem dX10_worthUnseen_63 : decode cX10_worthUnseen 63 = .ok (.iload 5, 2) := by decide +kernel
theorem dX10_worthUnseen_65 : decode cX10_worthUnseen 65 = .ok (.invokevirtual 198, 3) := by decide +kernel
theorem dX10_worthUnseen_68 : decode cX10_worthUnseen 68 = .ok (.iadd, 1) := by decide +kernel
theorem dX10_worthUnseen_69 : decode cX10_worthUnseen 69 = .ok (.istore_n 1, 1) := by decide +kernel
theorem dX10_worthUnseen_70 : decode cX10_worthUnseen 70 = .ok (.iinc 5 1, 3) := by decide +kernel
theorem dX10_worthUnseen_73 : decode cX10_worthUnseen 73 = .ok (.goto (-43), 3) := by decide +kernel
theorem dX10_worthUnseen_76 : decode cX10_worthUnseen 76 = .ok (.iinc 2 1, 3) := by decide +kernel
theorem dX10_worthUnseen_79 : decode cX10_worthUnseen 79 = .ok (.goto (-75), 3) := by decide +kernel
theorem dX10_worthUnseen_82 : decode cX10_worthUnseen 82 = .ok (.iload_n 1, 1) := by decide +kernel
theorem dX10_worthUnseen_83 : decode cX10_worthUnseen 83 = .ok (.ireturn, 1) := by decide +kernel
theorem dX10_worst_0 : decode cX10_worst 0 = .ok (.iload_n 1, 1) := by decide +kernel
theorem dX10_worst_1 : decode cX10_worst 1 = .ok (.iconst 0, 1) := by decide +kernel
theorem dX10_worst_2 : decode cX10_worst 2 = .ok (.iconst 3, 1) := by decide +kernel
theorem dX10_worst_3 : decode cX10_worst 3 = .ok (.invokestatic 91, 3) := by decide +kernel
theorem dX10_worst_6 : decode cX10_worst 6 = .ok (.ifCond .ne 6, 3) := by decide +kernel
theorem dX10_worst_9 : decode cX10_worst 9 = .ok (.bipush (-2), 2) := by decide +kernel
theorem dX10_worst_11 : decode cX10_worst 11 = .ok (.ireturn, 1) := by decide +kernel
theorem dX10_worst_12 : decode cX10_worst 12 = .ok (.aload_n 0, 1) := by decide +kernel
theorem dX10_worst_13 : decode cX10_worst 13 = .ok (.invokevirtual 240, 3) := by decide +kernel
theorem dX10_worst_16 : decode cX10_worst 16 = .ok (.aload_n 0, 1) := by decide +kernel
theorem dX10_worst_17 : decode cX10_worst 17 = .ok (.invokevirtual 267, 3) := by decide +kernel
theorem dX10_worst_20 : decode cX10_worst 20 = .ok (.iload_n 1, 1) := by decide +kernel
theorem dX10_worst_21 : decode cX10_worst 21 = .ok (.ifCond .ne 10, 3) := by decide +kernel
theorem dX10_worst_24 : decode cX10_worst 24 = .ok (.aload_n 0, 1) := by decide +kernel
theorem dX10_worst_25 : decode cX10_worst 25 = .ok (.getfield 261, 3) := by decide +kernel
theorem dX10_worst_28 : decode cX10_worst 28 = .ok (.goto 31, 3) := by decide +kernel
theorem dX10_worst_31 : decode cX10_worst 31 = .ok (.iload_n 1, 1) := by decide +kernel
theorem dX10_worst_32 : decode cX10_worst 32 = .ok (.iconst 1, 1) := by decide +kernel
theorem dX10_worst_33 : decode cX10_worst 33 = .ok (.if_icmp .ne 10, 3) := by decide +kernel
theorem dX10_worst_36 : decode cX10_worst 36 = .ok (.aload_n 0, 1) := by decide +kernel
theorem dX10_worst_37 : decode cX10_worst 37 = .ok (.getfield 258, 3) := by decide +kernel
theorem dX10_worst_40 : decode cX10_worst 40 = .ok (.goto 19, 3) := by decide +kernel
theorem dX10_worst_43 : decode cX10_worst 43 = .ok (.iload_n 1, 1) := by decide +kernel
theorem dX10_worst_44 : decode cX10_worst 44 = .ok (.iconst 2, 1) := by decide +kernel
theorem dX10_worst_45 : decode cX10_worst 45 = .ok (.if_icmp .ne 10, 3) := by decide +kernel
theorem dX10_worst_48 : decode cX10_worst 48 = .ok (.aload_n 0, 1) := by decide +kernel
theorem dX10_worst_49 : decode cX10_worst 49 = .ok (.getfield 264, 3) := by decide +kernel
theorem dX10_worst_52 : decode cX10_worst 52 = .ok (.goto 7, 3) := by decide +kernel
theorem dX10_worst_55 : decode cX10_worst 55 = .ok (.aload_n 0, 1) := by decide +kernel
theorem dX10_worst_56 : decode cX10_worst 56 = .ok (.invokevirtual 270, 3) := by decide +kernel
theorem dX10_worst_59 : decode cX10_worst 59 = .ok (.ireturn, 1) := by decide +kernel
theorem dX10_spread_0 : decode cX10_spread 0 = .ok (.lload_n 1, 1) := by decide +kernel
theorem dX10_spread_1 : decode cX10_spread 1 = .ok (.ldc2_w 273, 3) := by decide +kernel
theorem dX10_spread_4 : decode cX10_spread 4 = .ok (.land, 1) := by decide +kernel
theorem dX10_spread_5 : decode cX10_spread 5 = .ok (.iconst 1, 1) := by decide +kernel
theorem dX10_spread_6 : decode cX10_spread 6 = .ok (.lshl, 1) := by decide +kernel
theorem dX10_spread_7 : decode cX10_spread 7 = .ok (.lstore_n 3, 1) := by decide +kernel
theorem dX10_spread_8 : decode cX10_spread 8 = .ok (.lload_n 1, 1) := by decide +kernel
theorem dX10_spread_9 : decode cX10_spread 9 = .ok (.ldc2_w 275, 3) := by decide +kernel
theorem dX10_spread_12 : decode cX10_spread 12 = .ok (.land, 1) := by decide +kernel
theorem dX10_spread_13 : decode cX10_spread 13 = .ok (.iconst 1, 1) := by decide +kernel
theorem dX10_spread_14 : decode cX10_spread 14 = .ok (.lshr, 1) := by decide +kernel
theorem dX10_spread_15 : decode cX10_spread 15 = .ok (.lstore 5, 2) := by decide +kernel
theorem dX10_spread_17 : decode cX10_spread 17 = .ok (.lload_n 3, 1) := by decide +kernel
theorem dX10_spread_18 : decode cX10_spread 18 = .ok (.lload 5, 2) := by decide +kernel
theorem dX10_spread_20 : decode cX10_spread 20 = .ok (.lor, 1) := by decide +kernel
theorem dX10_spread_21 : decode cX10_spread 21 = .ok (.lload_n 1, 1) := by decide +kernel
theorem dX10_spread_22 : decode cX10_spread 22 = .ok (.bipush 6, 2) := by decide +kernel
theorem dX10_spread_24 : decode cX10_spread 24 = .ok (.lshl, 1) := by decide +kernel
theorem dX10_spread_25 : decode cX10_spread 25 = .ok (.lor, 1) := by decide +kernel
theorem dX10_spread_26 : decode cX10_spread 26 = .ok (.lload_n 1, 1) := by decide +kernel
theorem dX10_spread_27 : decode cX10_spread 27 = .ok (.bipush 6, 2) := by decide +kernel
theorem dX10_spread_29 : decode cX10_spread 29 = .ok (.lshr, 1) := by decide +kernel
theorem dX10_spread_30 : decode cX10_spread 30 = .ok (.lor, 1) := by decide +kernel
theorem dX10_spread_31 : decode cX10_spread 31 = .ok (.lstore 7, 2) := by decide +kernel
theorem dX10_spread_33 : decode cX10_spread 33 = .ok (.lload_n 1, 1) := by decide +kernel
theorem dX10_spread_34 : decode cX10_spread 34 = .ok (.lload 7, 2) := by decide +kernel
theorem dX10_spread_36 : decode cX10_spread 36 = .ok (.ldc2_w 95, 3) := by decide +kernel
theorem dX10_spread_39 : decode cX10_spread 39 = .ok (.land, 1) := by decide +kernel
theorem dX10_spread_40 : decode cX10_spread 40 = .ok (.aload_n 0, 1) := by decide +kernel
theorem dX10_spread_41 : decode cX10_spread 41 = .ok (.getfield 7, 3) := by decide +kernel
theorem dX10_spread_44 : decode cX10_spread 44 = .ok (.iconst 0, 1) := by decide +kernel
theorem dX10_spread_45 : decode cX10_spread 45 = .ok (.laload, 1) := by decide +kernel
theorem dX10_spread_46 : decode cX10_spread 46 = .ok (.ldc2_w 114, 3) := by decide +kernel
theorem dX10_spread_49 : decode cX10_spread 49 = .ok (.lxor, 1) := by decide +kernel
theorem dX10_spread_50 : decode cX10_spread 50 = .ok (.land, 1) := by decide +kernel
theorem dX10_spread_51 : decode cX10_spread 51 = .ok (.lor, 1) := by decide +kernel
theorem dX10_spread_52 : decode cX10_spread 52 = .ok (.lreturn, 1) := by decide +kernel
theorem dX10_sneaks_0 : decode cX10_sneaks 0 = .ok (.iconst 0, 1) := by decide +kernel
theorem dX10_sneaks_1 : decode cX10_sneaks 1 = .ok (.istore_n 3, 1) := by decide +kernel
theorem dX10_sneaks_2 : decode cX10_sneaks 2 = .ok (.iload_n 3, 1) := by decide +kernel
theorem dX10_sneaks_3 : decode cX10_sneaks 3 = .ok (.bipush 24, 2) := by decide +kernel
theorem dX10_sneaks_5 : decode cX10_sneaks 5 = .ok (.if_icmp .gt 71, 3) := by decide +kernel
theorem dX10_sneaks_8 : decode cX10_sneaks 8 = .ok (.iload_n 3, 1) := by decide +kernel
theorem dX10_sneaks_9 : decode cX10_sneaks 9 = .ok (.ifCond .ne 9, 3) := by decide +kernel
theorem dX10_sneaks_12 : decode cX10_sneaks 12 = .ok (.lconst 1, 1) := by decide +kernel
theorem dX10_sneaks_13 : decode cX10_sneaks 13 = .ok (.iload_n 1, 1) := by decide +kernel
theorem dX10_sneaks_14 : decode cX10_sneaks 14 = .ok (.lshl, 1) := by decide +kernel
theorem dX10_sneaks_15 : decode cX10_sneaks 15 = .ok (.goto 15, 3) := by decide +kernel
theorem dX10_sneaks_18 : decode cX10_sneaks 18 = .ok (.aload_n 0, 1) := by decide +kernel
theorem dX10_sneaks_19 : decode cX10_sneaks 19 = .ok (.aload_n 0, 1) := by decide +kernel
theorem dX10_sneaks_20 : decode cX10_sneaks 20 = .ok (.getfield 77, 3) := by decide +kernel
theorem dX10_sneaks_23 : decode cX10_sneaks 23 = .ok (.iload_n 3, 1) := by decide +kernel
theorem dX10_sneaks_24 : decode cX10_sneaks 24 = .ok (.iconst 1, 1) := by decide +kernel
theorem dX10_sneaks_25 : decode cX10_sneaks 25 = .ok (.isub, 1) := by decide +kernel
theorem dX10_sneaks_26 : decode cX10_sneaks 26 = .ok (.laload, 1) := by decide +kernel
theorem dX10_sneaks_27 : decode cX10_sneaks 27 = .ok (.invokevirtual 277, 3) := by decide +kernel
theorem dX10_sneaks_30 : decode cX10_sneaks 30 = .ok (.lstore 4, 2) := by decide +kernel
theorem dX10_sneaks_32 : decode cX10_sneaks 32 = .ok (.aload_n 0, 1) := by decide +kernel
theorem dX10_sneaks_33 : decode cX10_sneaks 33 = .ok (.getfield 77, 3) := by decide +kernel
theorem dX10_sneaks_36 : decode cX10_sneaks 36 = .ok (.iload_n 3, 1) := by decide +kernel
theorem dX10_sneaks_37 : decode cX10_sneaks 37 = .ok (.lload 4, 2) := by decide +kernel
theorem dX10_sneaks_39 : decode cX10_sneaks 39 = .ok (.aload_n 0, 1) := by decide +kernel
theorem dX10_sneaks_40 : decode cX10_sneaks 40 = .ok (.getfield 7, 3) := by decide +kernel
theorem dX10_sneaks_43 : decode cX10_sneaks 43 = .ok (.iconst 0, 1) := by decide +kernel
theorem dX10_sneaks_44 : decode cX10_sneaks 44 = .ok (.laload, 1) := by decide +kernel
theorem dX10_sneaks_45 : decode cX10_sneaks 45 = .ok (.ldc2_w 114, 3) := by decide +kernel
theorem dX10_sneaks_48 : decode cX10_sneaks 48 = .ok (.lxor, 1) := by decide +kernel
theorem dX10_sneaks_49 : decode cX10_sneaks 49 = .ok (.land, 1) := by decide +kernel
theorem dX10_sneaks_50 : decode cX10_sneaks 50 = .ok (.aload_n 0, 1) := by decide +kernel
theorem dX10_sneaks_51 : decode cX10_sneaks 51 = .ok (.iload_n 2, 1) := by decide +kernel
theorem dX10_sneaks_52 : decode cX10_sneaks 52 = .ok (.iload_n 3, 1) := by decide +kernel
theorem dX10_sneaks_53 : decode cX10_sneaks 53 = .ok (.iadd, 1) := by decide +kernel
theorem dX10_sneaks_54 : decode cX10_sneaks 54 = .ok (.bipush 24, 2) := by decide +kernel
theorem dX10_sneaks_56 : decode cX10_sneaks 56 = .ok (.irem, 1) := by decide +kernel
theorem dX10_sneaks_57 : decode cX10_sneaks 57 = .ok (.aload_n 0, 1) := by decide +kernel
theorem dX10_sneaks_58 : decode cX10_sneaks 58 = .ok (.invokevirtual 243, 3) := by decide +kernel
theorem dX10_sneaks_61 : decode cX10_sneaks 61 = .ok (.invokevirtual 246, 3) := by decide +kernel
theorem dX10_sneaks_64 : decode cX10_sneaks 64 = .ok (.ldc2_w 114, 3) := by decide +kernel
theorem dX10_sneaks_67 : decode cX10_sneaks 67 = .ok (.lxor, 1) := by decide +kernel
theorem dX10_sneaks_68 : decode cX10_sneaks 68 = .ok (.land, 1) := by decide +kernel
theorem dX10_sneaks_69 : decode cX10_sneaks 69 = .ok (.lastore, 1) := by decide +kernel
theorem dX10_sneaks_70 : decode cX10_sneaks 70 = .ok (.iinc 3 1, 3) := by decide +kernel
theorem dX10_sneaks_73 : decode cX10_sneaks 73 = .ok (.goto (-71), 3) := by decide +kernel
theorem dX10_sneaks_76 : decode cX10_sneaks 76 = .ok (.return_, 1) := by decide +kernel
theorem dX10_soonest_0 : decode cX10_soonest 0 = .ok (.iconst 0, 1) := by decide +kernel
theorem dX10_soonest_1 : decode cX10_soonest 1 = .ok (.istore_n 2, 1) := by decide +kernel
theorem dX10_soonest_2 : decode cX10_soonest 2 = .ok (.iload_n 2, 1) := by decide +kernel
theorem dX10_soonest_3 : decode cX10_soonest 3 = .ok (.bipush 24, 2) := by decide +kernel
theorem dX10_soonest_5 : decode cX10_soonest 5 = .ok (.if_icmp .gt 24, 3) := by decide +kernel
theorem dX10_soonest_8 : decode cX10_soonest 8 = .ok (.aload_n 0, 1) := by decide +kernel
theorem dX10_soonest_9 : decode cX10_soonest 9 = .ok (.getfield 77, 3) := by decide +kernel
theorem dX10_soonest_12 : decode cX10_soonest 12 = .ok (.iload_n 2, 1) := by decide +kernel
theorem dX10_soonest_13 : decode cX10_soonest 13 = .ok (.laload, 1) := by decide +kernel
theorem dX10_soonest_14 : decode cX10_soonest 14 = .ok (.iload_n 1, 1) := by decide +kernel
theorem dX10_soonest_15 : decode cX10_soonest 15 = .ok (.invokestatic 100, 3) := by decide +kernel
theorem dX10_soonest_18 : decode cX10_soonest 18 = .ok (.ifCond .eq 5, 3) := by decide +kernel
theorem dX10_soonest_21 : decode cX10_soonest 21 = .ok (.iload_n 2, 1) := by decide +kernel
theorem dX10_soonest_22 : decode cX10_soonest 22 = .ok (.ireturn, 1) := by decide +kernel
theorem dX10_soonest_23 : decode cX10_soonest 23 = .ok (.iinc 2 1, 3) := by decide +kernel
theorem dX10_soonest_26 : decode cX10_soonest 26 = .ok (.goto (-24), 3) := by decide +kernel
theorem dX10_soonest_29 : decode cX10_soonest 29 = .ok (.iconst (-1), 1) := by decide +kernel
theorem dX10_soonest_30 : decode cX10_soonest 30 = .ok (.ireturn, 1) := by decide +kernel
theorem dX10_soon_0 : decode cX10_soon 0 = .ok (.iload_n 1, 1) := by decide +kernel
theorem dX10_soon_1 : decode cX10_soon 1 = .ok (.invokestatic 110, 3) := by decide +kernel
theorem dX10_soon_4 : decode cX10_soon 4 = .ok (.ifCond .eq 10, 3) := by decide +kernel
theorem dX10_soon_7 : decode cX10_soon 7 = .ok (.iload_n 2, 1) := by decide +kernel
theorem dX10_soon_8 : decode cX10_soon 8 = .ok (.invokestatic 110, 3) := by decide +kernel
theorem dX10_soon_11 : decode cX10_soon 11 = .ok (.ifCond .ne 6, 3) := by decide +kernel
theorem dX10_soon_14 : decode cX10_soon 14 = .ok (.bipush (-5), 2) := by decide +kernel
theorem dX10_soon_16 : decode cX10_soon 16 = .ok (.ireturn, 1) := by decide +kernel
theorem dX10_soon_17 : decode cX10_soon 17 = .ok (.iload_n 3, 1) := by decide +kernel
theorem dX10_soon_18 : decode cX10_soon 18 = .ok (.invokestatic 195, 3) := by decide +kernel
theorem dX10_soon_21 : decode cX10_soon 21 = .ok (.ifCond .ne 6, 3) := by decide +kernel
theorem dX10_soon_24 : decode cX10_soon 24 = .ok (.bipush (-7), 2) := by decide +kernel
theorem dX10_soon_26 : decode cX10_soon 26 = .ok (.ireturn, 1) := by decide +kernel
theorem dX10_soon_27 : decode cX10_soon 27 = .ok (.aload_n 0, 1) := by decide +kernel
theorem dX10_soon_28 : decode cX10_soon 28 = .ok (.invokevirtual 240, 3) := by decide +kernel
theorem dX10_soon_31 : decode cX10_soon 31 = .ok (.aload_n 0, 1) := by decide +kernel
theorem dX10_soon_32 : decode cX10_soon 32 = .ok (.iload_n 1, 1) := by decide +kernel
theorem dX10_soon_33 : decode cX10_soon 33 = .ok (.iload_n 3, 1) := by decide +kernel
theorem dX10_soon_34 : decode cX10_soon 34 = .ok (.invokevirtual 281, 3) := by decide +kernel
theorem dX10_soon_37 : decode cX10_soon 37 = .ok (.aload_n 0, 1) := by decide +kernel
theorem dX10_soon_38 : decode cX10_soon 38 = .ok (.iload_n 2, 1) := by decide +kernel
theorem dX10_soon_39 : decode cX10_soon 39 = .ok (.invokevirtual 285, 3) := by decide +kernel
theorem dX10_soon_42 : decode cX10_soon 42 = .ok (.ireturn, 1) := by decide +kernel
theorem dX10_was_0 : decode cX10_was 0 = .ok (.aload_n 0, 1) := by decide +kernel
theorem dX10_was_1 : decode cX10_was 1 = .ok (.getfield 77, 3) := by decide +kernel
theorem dX10_was_4 : decode cX10_was 4 = .ok (.iload_n 2, 1) := by decide +kernel
theorem dX10_was_5 : decode cX10_was 5 = .ok (.laload, 1) := by decide +kernel
theorem dX10_was_6 : decode cX10_was 6 = .ok (.iload_n 1, 1) := by decide +kernel
theorem dX10_was_7 : decode cX10_was 7 = .ok (.invokestatic 100, 3) := by decide +kernel
theorem dX10_was_10 : decode cX10_was 10 = .ok (.ifCond .eq 5, 3) := by decide +kernel
theorem dX10_was_13 : decode cX10_was 13 = .ok (.iload_n 1, 1) := by decide +kernel
theorem dX10_was_14 : decode cX10_was 14 = .ok (.ireturn, 1) := by decide +kernel
theorem dX10_was_15 : decode cX10_was 15 = .ok (.iconst 0, 1) := by decide +kernel
theorem dX10_was_16 : decode cX10_was 16 = .ok (.istore_n 3, 1) := by decide +kernel
theorem dX10_was_17 : decode cX10_was 17 = .ok (.iload_n 3, 1) := by decide +kernel
theorem dX10_was_18 : decode cX10_was 18 = .ok (.iconst 4, 1) := by decide +kernel
theorem dX10_was_19 : decode cX10_was 19 = .ok (.if_icmp .ge 40, 3) := by decide +kernel
theorem dX10_was_22 : decode cX10_was 22 = .ok (.aload_n 0, 1) := by decide +kernel
theorem dX10_was_23 : decode cX10_was 23 = .ok (.iload_n 1, 1) := by decide +kernel
theorem dX10_was_24 : decode cX10_was 24 = .ok (.iload_n 3, 1) := by decide +kernel
theorem dX10_was_25 : decode cX10_was 25 = .ok (.invokevirtual 208, 3) := by decide +kernel
theorem dX10_was_28 : decode cX10_was 28 = .ok (.istore 4, 2) := by decide +kernel
theorem dX10_was_30 : decode cX10_was 30 = .ok (.iload 4, 2) := by decide +kernel
theorem dX10_was_32 : decode cX10_was 32 = .ok (.iconst (-1), 1) := by decide +kernel
theorem dX10_was_33 : decode cX10_was 33 = .ok (.if_icmp .eq 20, 3) := by decide +kernel
theorem dX10_was_36 : decode cX10_was 36 = .ok (.aload_n 0, 1) := by decide +kernel
theorem dX10_was_37 : decode cX10_was 37 = .ok (.getfield 77, 3) := by decide +kernel
theorem dX10_was_40 : decode cX10_was 40 = .ok (.iload_n 2, 1) := by decide +kernel
theorem dX10_was_41 : decode cX10_was 41 = .ok (.laload, 1) := by decide +kernel
theorem dX10_was_42 : decode cX10_was 42 = .ok (.iload 4, 2) := by decide +kernel
theorem dX10_was_44 : decode cX10_was 44 = .ok (.invokestatic 100, 3) := by decide +kernel
theorem dX10_was_47 : decode cX10_was 47 = .ok (.ifCond .eq 6, 3) := by decide +kernel
theorem dX10_was_50 : decode cX10_was 50 = .ok (.iload 4, 2) := by decide +kernel
theorem dX10_was_52 : decode cX10_was 52 = .ok (.ireturn, 1) := by decide +kernel
theorem dX10_was_53 : decode cX10_was 53 = .ok (.iinc 3 1, 3) := by decide +kernel
theorem dX10_was_56 : decode cX10_was 56 = .ok (.goto (-39), 3) := by decide +kernel
theorem dX10_was_59 : decode cX10_was 59 = .ok (.iconst (-1), 1) := by decide +kernel
theorem dX10_was_60 : decode cX10_was 60 = .ok (.ireturn, 1) := by decide +kernel
theorem dX10_path_0 : decode cX10_path 0 = .ok (.iload_n 1, 1) := by decide +kernel
theorem dX10_path_1 : decode cX10_path 1 = .ok (.invokestatic 110, 3) := by decide +kernel
theorem dX10_path_4 : decode cX10_path 4 = .ok (.ifCond .eq 10, 3) := by decide +kernel
theorem dX10_path_7 : decode cX10_path 7 = .ok (.iload_n 2, 1) := by decide +kernel
theorem dX10_path_8 : decode cX10_path 8 = .ok (.invokestatic 110, 3) := by decide +kernel
theorem dX10_path_11 : decode cX10_path 11 = .ok (.ifCond .ne 6, 3) := by decide +kernel
theorem dX10_path_14 : decode cX10_path 14 = .ok (.bipush (-5), 2) := by decide +kernel
theorem dX10_path_16 : decode cX10_path 16 = .ok (.ireturn, 1) := by decide +kernel
theorem dX10_path_17 : decode cX10_path 17 = .ok (.iload_n 3, 1) := by decide +kernel
theorem dX10_path_18 : decode cX10_path 18 = .ok (.invokestatic 195, 3) := by decide +kernel
theorem dX10_path_21 : decode cX10_path 21 = .ok (.ifCond .eq 14, 3) := by decide +kernel
theorem dX10_path_24 : decode cX10_path 24 = .ok (.iload 4, 2) := by decide +kernel
theorem dX10_path_26 : decode cX10_path 26 = .ok (.iconst 0, 1) := by decide +kernel
theorem dX10_path_27 : decode cX10_path 27 = .ok (.bipush 24, 2) := by decide +kernel
theorem dX10_path_29 : decode cX10_path 29 = .ok (.invokestatic 91, 3) := by decide +kernel
theorem dX10_path_32 : decode cX10_path 32 = .ok (.ifCond .ne 6, 3) := by decide +kernel
theorem dX10_path_35 : decode cX10_path 35 = .ok (.bipush (-7), 2) := by decide +kernel
theorem dX10_path_37 : decode cX10_path 37 = .ok (.ireturn, 1) := by decide +kernel
theorem dX10_path_38 : decode cX10_path 38 = .ok (.aload_n 0, 1) := by decide +kernel
theorem dX10_path_39 : decode cX10_path 39 = .ok (.invokevirtual 240, 3) := by decide +kernel
theorem dX10_path_42 : decode cX10_path 42 = .ok (.aload_n 0, 1) := by decide +kernel
theorem dX10_path_43 : decode cX10_path 43 = .ok (.iload_n 1, 1) := by decide +kernel
theorem dX10_path_44 : decode cX10_path 44 = .ok (.iload_n 3, 1) := by decide +kernel
theorem dX10_path_45 : decode cX10_path 45 = .ok (.invokevirtual 281, 3) := by decide +kernel
theorem dX10_path_48 : decode cX10_path 48 = .ok (.aload_n 0, 1) := by decide +kernel
theorem dX10_path_49 : decode cX10_path 49 = .ok (.iload_n 2, 1) := by decide +kernel
theorem dX10_path_50 : decode cX10_path 50 = .ok (.invokevirtual 285, 3) := by decide +kernel
theorem dX10_path_53 : decode cX10_path 53 = .ok (.istore 5, 2) := by decide +kernel
theorem dX10_path_55 : decode cX10_path 55 = .ok (.iload_n 2, 1) := by decide +kernel
theorem dX10_path_56 : decode cX10_path 56 = .ok (.istore 6, 2) := by decide +kernel
theorem dX10_path_58 : decode cX10_path 58 = .ok (.iload 5, 2) := by decide +kernel
theorem dX10_path_60 : decode cX10_path 60 = .ok (.istore 7, 2) := by decide +kernel
theorem dX10_path_62 : decode cX10_path 62 = .ok (.iload 7, 2) := by decide +kernel
theorem dX10_path_64 : decode cX10_path 64 = .ok (.iload 4, 2) := by decide +kernel
theorem dX10_path_66 : decode cX10_path 66 = .ok (.if_icmp .le 21, 3) := by decide +kernel
theorem dX10_path_69 : decode cX10_path 69 = .ok (.aload_n 0, 1) := by decide +kernel
theorem dX10_path_70 : decode cX10_path 70 = .ok (.iload 6, 2) := by decide +kernel
theorem dX10_path_72 : decode cX10_path 72 = .ok (.iload 7, 2) := by decide +kernel
theorem dX10_path_74 : decode cX10_path 74 = .ok (.iconst 1, 1) := by decide +kernel
theorem dX10_path_75 : decode cX10_path 75 = .ok (.isub, 1) := by decide +kernel
theorem dX10_path_76 : decode cX10_path 76 = .ok (.invokevirtual 288, 3) := by decide +kernel
theorem dX10_path_79 : decode cX10_path 79 = .ok (.istore 6, 2) := by decide +kernel
theorem dX10_path_81 : decode cX10_path 81 = .ok (.iinc 7 (-1), 3) := by decide +kernel
theorem dX10_path_84 : decode cX10_path 84 = .ok (.goto (-22), 3) := by decide +kernel
theorem dX10_path_87 : decode cX10_path 87 = .ok (.iload 5, 2) := by decide +kernel
theorem dX10_path_89 : decode cX10_path 89 = .ok (.iconst (-1), 1) := by decide +kernel
theorem dX10_path_90 : decode cX10_path 90 = .ok (.if_icmp .eq 10, 3) := by decide +kernel
theorem dX10_path_93 : decode cX10_path 93 = .ok (.iload 4, 2) := by decide +kernel
theorem dX10_path_95 : decode cX10_path 95 = .ok (.iload 5, 2) := by decide +kernel
theorem dX10_path_97 : decode cX10_path 97 = .ok (.if_icmp .le 7, 3) := by decide +kernel
theorem dX10_path_100 : decode cX10_path 100 = .ok (.iconst (-1), 1) := by decide +kernel
theorem dX10_path_101 : decode cX10_path 101 = .ok (.goto 5, 3) := by decide +kernel
theorem dX10_path_104 : decode cX10_path 104 = .ok (.iload 6, 2) := by decide +kernel
theorem dX10_path_106 : decode cX10_path 106 = .ok (.ireturn, 1) := by decide +kernel
theorem dX10_hides_0 : decode cX10_hides 0 = .ok (.iload_n 1, 1) := by decide +kernel
theorem dX10_hides_1 : decode cX10_hides 1 = .ok (.invokestatic 110, 3) := by decide +kernel
theorem dX10_hides_4 : decode cX10_hides 4 = .ok (.ifCond .eq 20, 3) := by decide +kernel
theorem dX10_hides_7 : decode cX10_hides 7 = .ok (.iload_n 2, 1) := by decide +kernel
theorem dX10_hides_8 : decode cX10_hides 8 = .ok (.invokestatic 195, 3) := by decide +kernel
theorem dX10_hides_11 : decode cX10_hides 11 = .ok (.ifCond .eq 13, 3) := by decide +kernel
theorem dX10_hides_14 : decode cX10_hides 14 = .ok (.iload_n 3, 1) := by decide +kernel
theorem dX10_hides_15 : decode cX10_hides 15 = .ok (.iconst 0, 1) := by decide +kernel
theorem dX10_hides_16 : decode cX10_hides 16 = .ok (.bipush 24, 2) := by decide +kernel
theorem dX10_hides_18 : decode cX10_hides 18 = .ok (.invokestatic 91, 3) := by decide +kernel
theorem dX10_hides_21 : decode cX10_hides 21 = .ok (.ifCond .ne 7, 3) := by decide +kernel
theorem dX10_hides_24 : decode cX10_hides 24 = .ok (.ldc2_w 108, 3) := by decide +kernel
theorem dX10_hides_27 : decode cX10_hides 27 = .ok (.lreturn, 1) := by decide +kernel
theorem dX10_hides_28 : decode cX10_hides 28 = .ok (.aload_n 0, 1) := by decide +kernel
theorem dX10_hides_29 : decode cX10_hides 29 = .ok (.invokevirtual 240, 3) := by decide +kernel
theorem dX10_hides_32 : decode cX10_hides 32 = .ok (.aload_n 0, 1) := by decide +kernel
theorem dX10_hides_33 : decode cX10_hides 33 = .ok (.iload_n 1, 1) := by decide +kernel
theorem dX10_hides_34 : decode cX10_hides 34 = .ok (.iload_n 2, 1) := by decide +kernel
theorem dX10_hides_35 : decode cX10_hides 35 = .ok (.invokevirtual 281, 3) := by decide +kernel
theorem dX10_hides_38 : decode cX10_hides 38 = .ok (.aload_n 0, 1) := by decide +kernel
theorem dX10_hides_39 : decode cX10_hides 39 = .ok (.getfield 77, 3) := by decide +kernel
theorem dX10_hides_42 : decode cX10_hides 42 = .ok (.iload_n 3, 1) := by decide +kernel
theorem dX10_hides_43 : decode cX10_hides 43 = .ok (.laload, 1) := by decide +kernel
theorem dX10_hides_44 : decode cX10_hides 44 = .ok (.lreturn, 1) := by decide +kernel
theorem dX10_whenFrom_0 : decode cX10_whenFrom 0 = .ok (.aload_n 0, 1) := by decide +kernel
theorem dX10_whenFrom_1 : decode cX10_whenFrom 1 = .ok (.invokevirtual 240, 3) := by decide +kernel
theorem dX10_whenFrom_4 : decode cX10_whenFrom 4 = .ok (.iconst 0, 1) := by decide +kernel
theorem dX10_whenFrom_5 : decode cX10_whenFrom 5 = .ok (.istore_n 3, 1) := by decide +kernel
theorem dX10_whenFrom_6 : decode cX10_whenFrom 6 = .ok (.iconst 0, 1) := by decide +kernel
theorem dX10_whenFrom_7 : decode cX10_whenFrom 7 = .ok (.istore 4, 2) := by decide +kernel
theorem dX10_whenFrom_9 : decode cX10_whenFrom 9 = .ok (.iload 4, 2) := by decide +kernel
theorem dX10_whenFrom_11 : decode cX10_whenFrom 11 = .ok (.bipush 24, 2) := by decide +kernel
theorem dX10_whenFrom_13 : decode cX10_whenFrom 13 = .ok (.if_icmp .ge 36, 3) := by decide +kernel
theorem dX10_whenFrom_16 : decode cX10_whenFrom 16 = .ok (.aload_n 0, 1) := by decide +kernel
theorem dX10_whenFrom_17 : decode cX10_whenFrom 17 = .ok (.iload_n 1, 1) := by decide +kernel
theorem dX10_whenFrom_18 : decode cX10_whenFrom 18 = .ok (.iload 4, 2) := by decide +kernel
theorem dX10_whenFrom_20 : decode cX10_whenFrom 20 = .ok (.invokevirtual 281, 3) := by decide +kernel
theorem dX10_whenFrom_23 : decode cX10_whenFrom 23 = .ok (.iload_n 3, 1) := by decide +kernel
theorem dX10_whenFrom_24 : decode cX10_whenFrom 24 = .ok (.aload_n 0, 1) := by decide +kernel
theorem dX10_whenFrom_25 : decode cX10_whenFrom 25 = .ok (.iload_n 2, 1) := by decide +kernel
theorem dX10_whenFrom_26 : decode cX10_whenFrom 26 = .ok (.invokevirtual 285, 3) := by decide +kernel
theorem dX10_whenFrom_29 : decode cX10_whenFrom 29 = .ok (.iconst (-1), 1) := by decide +kernel
theorem dX10_whenFrom_30 : decode cX10_whenFrom 30 = .ok (.if_icmp .ne 7, 3) := by decide +kernel
theorem dX10_whenFrom_33 : decode cX10_whenFrom 33 = .ok (.iconst 0, 1) := by decide +kernel
theorem dX10_whenFrom_34 : decode cX10_whenFrom 34 = .ok (.goto 7, 3) := by decide +kernel
theorem dX10_whenFrom_37 : decode cX10_whenFrom 37 = .ok (.iconst 1, 1) := by decide +kernel
theorem dX10_whenFrom_38 : decode cX10_whenFrom 38 = .ok (.iload 4, 2) := by decide +kernel
theorem dX10_whenFrom_40 : decode cX10_whenFrom 40 = .ok (.ishl, 1) := by decide +kernel
theorem dX10_whenFrom_41 : decode cX10_whenFrom 41 = .ok (.ior, 1) := by decide +kernel
theorem dX10_whenFrom_42 : decode cX10_whenFrom 42 = .ok (.istore_n 3, 1) := by decide +kernel
theorem dX10_whenFrom_43 : decode cX10_whenFrom 43 = .ok (.iinc 4 1, 3) := by decide +kernel
theorem dX10_whenFrom_46 : decode cX10_whenFrom 46 = .ok (.goto (-37), 3) := by decide +kernel
theorem dX10_whenFrom_49 : decode cX10_whenFrom 49 = .ok (.iload_n 3, 1) := by decide +kernel
theorem dX10_whenFrom_50 : decode cX10_whenFrom 50 = .ok (.ireturn, 1) := by decide +kernel
theorem dX10_when_0 : decode cX10_when 0 = .ok (.iload_n 1, 1) := by decide +kernel
theorem dX10_when_1 : decode cX10_when 1 = .ok (.invokestatic 110, 3) := by decide +kernel
theorem dX10_when_4 : decode cX10_when 4 = .ok (.ifCond .eq 19, 3) := by decide +kernel
theorem dX10_when_7 : decode cX10_when 7 = .ok (.iload_n 2, 1) := by decide +kernel
theorem dX10_when_8 : decode cX10_when 8 = .ok (.invokestatic 110, 3) := by decide +kernel
theorem dX10_when_11 : decode cX10_when 11 = .ok (.ifCond .eq 12, 3) := by decide +kernel
theorem dX10_when_14 : decode cX10_when 14 = .ok (.aload_n 0, 1) := by decide +kernel
theorem dX10_when_15 : decode cX10_when 15 = .ok (.iload_n 1, 1) := by decide +kernel
theorem dX10_when_16 : decode cX10_when 16 = .ok (.iload_n 2, 1) := by decide +kernel
theorem dX10_when_17 : decode cX10_when 17 = .ok (.invokevirtual 291, 3) := by decide +kernel
theorem dX10_when_20 : decode cX10_when 20 = .ok (.goto 5, 3) := by decide +kernel
theorem dX10_when_23 : decode cX10_when 23 = .ok (.bipush (-5), 2) := by decide +kernel
theorem dX10_when_25 : decode cX10_when 25 = .ok (.ireturn, 1) := by decide +kernel
theorem dX10_more_0 : decode cX10_more 0 = .ok (.iload_n 1, 1) := by decide +kernel
theorem dX10_more_1 : decode cX10_more 1 = .ok (.invokestatic 110, 3) := by decide +kernel
theorem dX10_more_4 : decode cX10_more 4 = .ok (.ifCond .eq 10, 3) := by decide +kernel
theorem dX10_more_7 : decode cX10_more 7 = .ok (.iload_n 2, 1) := by decide +kernel
theorem dX10_more_8 : decode cX10_more 8 = .ok (.invokestatic 110, 3) := by decide +kernel
theorem dX10_more_11 : decode cX10_more 11 = .ok (.ifCond .ne 6, 3) := by decide +kernel
theorem dX10_more_14 : decode cX10_more 14 = .ok (.bipush (-5), 2) := by decide +kernel
theorem dX10_more_16 : decode cX10_more 16 = .ok (.ireturn, 1) := by decide +kernel
theorem dX10_more_17 : decode cX10_more 17 = .ok (.iload_n 3, 1) := by decide +kernel
theorem dX10_more_18 : decode cX10_more 18 = .ok (.iconst 0, 1) := by decide +kernel
theorem dX10_more_19 : decode cX10_more 19 = .ok (.iconst 3, 1) := by decide +kernel
theorem dX10_more_20 : decode cX10_more 20 = .ok (.invokestatic 91, 3) := by decide +kernel
theorem dX10_more_23 : decode cX10_more 23 = .ok (.ifCond .ne 6, 3) := by decide +kernel
theorem dX10_more_26 : decode cX10_more 26 = .ok (.bipush (-7), 2) := by decide +kernel
theorem dX10_more_28 : decode cX10_more 28 = .ok (.ireturn, 1) := by decide +kernel
theorem dX10_more_29 : decode cX10_more 29 = .ok (.iconst 1, 1) := by decide +kernel
theorem dX10_more_30 : decode cX10_more 30 = .ok (.iload_n 3, 1) := by decide +kernel
theorem dX10_more_31 : decode cX10_more 31 = .ok (.iconst 2, 1) := by decide +kernel
theorem dX10_more_32 : decode cX10_more 32 = .ok (.irem, 1) := by decide +kernel
theorem dX10_more_33 : decode cX10_more 33 = .ok (.iadd, 1) := by decide +kernel
theorem dX10_more_34 : decode cX10_more 34 = .ok (.istore 4, 2) := by decide +kernel
theorem dX10_more_36 : decode cX10_more 36 = .ok (.aload_n 0, 1) := by decide +kernel
theorem dX10_more_37 : decode cX10_more 37 = .ok (.getfield 7, 3) := by decide +kernel
theorem dX10_more_40 : decode cX10_more 40 = .ok (.iload 4, 2) := by decide +kernel
theorem dX10_more_42 : decode cX10_more 42 = .ok (.laload, 1) := by decide +kernel
theorem dX10_more_43 : decode cX10_more 43 = .ok (.lstore 5, 2) := by decide +kernel
theorem dX10_more_45 : decode cX10_more 45 = .ok (.iconst (-1), 1) := by decide +kernel
theorem dX10_more_46 : decode cX10_more 46 = .ok (.istore 7, 2) := by decide +kernel
theorem dX10_more_48 : decode cX10_more 48 = .ok (.aload_n 0, 1) := by decide +kernel
theorem dX10_more_49 : decode cX10_more 49 = .ok (.iload_n 1, 1) := by decide +kernel
theorem dX10_more_50 : decode cX10_more 50 = .ok (.iload_n 2, 1) := by decide +kernel
theorem dX10_more_51 : decode cX10_more 51 = .ok (.invokevirtual 291, 3) := by decide +kernel
theorem dX10_more_54 : decode cX10_more 54 = .ok (.i2l, 1) := by decide +kernel
theorem dX10_more_55 : decode cX10_more 55 = .ok (.invokestatic 116, 3) := by decide +kernel
theorem dX10_more_58 : decode cX10_more 58 = .ok (.istore 8, 2) := by decide +kernel
theorem dX10_more_60 : decode cX10_more 60 = .ok (.iconst 0, 1) := by decide +kernel
theorem dX10_more_61 : decode cX10_more 61 = .ok (.istore 9, 2) := by decide +kernel
theorem dX10_more_63 : decode cX10_more 63 = .ok (.iload 9, 2) := by decide +kernel
theorem dX10_more_65 : decode cX10_more 65 = .ok (.bipush 36, 2) := by decide +kernel
theorem dX10_more_67 : decode cX10_more 67 = .ok (.if_icmp .ge 91, 3) := by decide +kernel
theorem dX10_more_70 : decode cX10_more 70 = .ok (.aload_n 0, 1) := by decide +kernel
theorem dX10_more_71 : decode cX10_more 71 = .ok (.getfield 7, 3) := by decide +kernel
theorem dX10_more_74 : decode cX10_more 74 = .ok (.iconst 0, 1) := by decide +kernel
theorem dX10_more_75 : decode cX10_more 75 = .ok (.laload, 1) := by decide +kernel
theorem dX10_more_76 : decode cX10_more 76 = .ok (.iload 9, 2) := by decide +kernel
theorem dX10_more_78 : decode cX10_more 78 = .ok (.invokestatic 100, 3) := by decide +kernel
theorem dX10_more_81 : decode cX10_more 81 = .ok (.ifCond .ne 71, 3) := by decide +kernel
theorem dX10_more_84 : decode cX10_more 84 = .ok (.lload 5, 2) := by decide +kernel
theorem dX10_more_86 : decode cX10_more 86 = .ok (.iload 9, 2) := by decide +kernel
theorem dX10_more_88 : decode cX10_more 88 = .ok (.invokestatic 100, 3) := by decide +kernel
theorem dX10_more_91 : decode cX10_more 91 = .ok (.ifCond .ne 61, 3) := by decide +kernel
theorem dX10_more_94 : decode cX10_more 94 = .ok (.aload_n 0, 1) := by decide +kernel
theorem dX10_more_95 : decode cX10_more 95 = .ok (.getfield 7, 3) := by decide +kernel
theorem dX10_more_98 : decode cX10_more 98 = .ok (.iload 4, 2) := by decide +kernel
theorem dX10_more_100 : decode cX10_more 100 = .ok (.lload 5, 2) := by decide +kernel
theorem dX10_more_102 : decode cX10_more 102 = .ok (.lconst 1, 1) := by decide +kernel
theorem dX10_more_103 : decode cX10_more 103 = .ok (.iload 9, 2) := by decide +kernel
theorem dX10_more_105 : decode cX10_more 105 = .ok (.lshl, 1) := by decide +kernel
theorem dX10_more_106 : decode cX10_more 106 = .ok (.lor, 1) := by decide +kernel
theorem dX10_more_107 : decode cX10_more 107 = .ok (.lastore, 1) := by decide +kernel
theorem dX10_more_108 : decode cX10_more 108 = .ok (.aload_n 0, 1) := by decide +kernel
theorem dX10_more_109 : decode cX10_more 109 = .ok (.iload_n 1, 1) := by decide +kernel
theorem dX10_more_110 : decode cX10_more 110 = .ok (.iload_n 2, 1) := by decide +kernel
theorem dX10_more_111 : decode cX10_more 111 = .ok (.invokevirtual 291, 3) := by decide +kernel
theorem dX10_more_114 : decode cX10_more 114 = .ok (.i2l, 1) := by decide +kernel
theorem dX10_more_115 : decode cX10_more 115 = .ok (.invokestatic 116, 3) := by decide +kernel
theorem dX10_more_118 : decode cX10_more 118 = .ok (.istore 10, 2) := by decide +kernel
theorem dX10_more_120 : decode cX10_more 120 = .ok (.iload 10, 2) := by decide +kernel
theorem dX10_more_122 : decode cX10_more 122 = .ok (.iload 8, 2) := by decide +kernel
theorem dX10_more_124 : decode cX10_more 124 = .ok (.if_icmp .ge 8, 3) := by decide +kernel
theorem dX10_more_127 : decode cX10_more 127 = .ok (.iload 9, 2) := by decide +kernel
theorem dX10_more_129 : decode cX10_more 129 = .ok (.goto 5, 3) := by decide +kernel
theorem dX10_more_132 : decode cX10_more 132 = .ok (.iload 7, 2) := by decide +kernel
theorem dX10_more_134 : decode cX10_more 134 = .ok (.istore 7, 2) := by decide +kernel
theorem dX10_more_136 : decode cX10_more 136 = .ok (.iload 10, 2) := by decide +kernel
theorem dX10_more_138 : decode cX10_more 138 = .ok (.iload 8, 2) := by decide +kernel
theorem dX10_more_140 : decode cX10_more 140 = .ok (.if_icmp .ge 8, 3) := by decide +kernel
theorem dX10_more_143 : decode cX10_more 143 = .ok (.iload 10, 2) := by decide +kernel
theorem dX10_more_145 : decode cX10_more 145 = .ok (.goto 5, 3) := by decide +kernel
theorem dX10_more_148 : decode cX10_more 148 = .ok (.iload 8, 2) := by decide +kernel
theorem dX10_more_150 : decode cX10_more 150 = .ok (.istore 8, 2) := by decide +kernel
theorem dX10_more_152 : decode cX10_more 152 = .ok (.iinc 9 1, 3) := by decide +kernel
theorem dX10_more_155 : decode cX10_more 155 = .ok (.goto (-92), 3) := by decide +kernel
theorem dX10_more_158 : decode cX10_more 158 = .ok (.aload_n 0, 1) := by decide +kernel
theorem dX10_more_159 : decode cX10_more 159 = .ok (.getfield 7, 3) := by decide +kernel
theorem dX10_more_162 : decode cX10_more 162 = .ok (.iload 4, 2) := by decide +kernel
theorem dX10_more_164 : decode cX10_more 164 = .ok (.lload 5, 2) := by decide +kernel
theorem dX10_more_166 : decode cX10_more 166 = .ok (.lastore, 1) := by decide +kernel
theorem dX10_more_167 : decode cX10_more 167 = .ok (.iload_n 3, 1) := by decide +kernel
theorem dX10_more_168 : decode cX10_more 168 = .ok (.iconst 2, 1) := by decide +kernel
theorem dX10_more_169 : decode cX10_more 169 = .ok (.if_icmp .ge 8, 3) := by decide +kernel
theorem dX10_more_172 : decode cX10_more 172 = .ok (.iload 7, 2) := by decide +kernel
theorem dX10_more_174 : decode cX10_more 174 = .ok (.goto 5, 3) := by decide +kernel
theorem dX10_more_177 : decode cX10_more 177 = .ok (.iload 8, 2) := by decide +kernel
theorem dX10_more_179 : decode cX10_more 179 = .ok (.ireturn, 1) := by decide +kernel
theorem dX10_shift_0 : decode cX10_shift 0 = .ok (.aload_n 0, 1) := by decide +kernel
theorem dX10_shift_1 : decode cX10_shift 1 = .ok (.iload_n 1, 1) := by decide +kernel
theorem dX10_shift_2 : decode cX10_shift 2 = .ok (.invokevirtual 202, 3) := by decide +kernel
theorem dX10_shift_5 : decode cX10_shift 5 = .ok (.ifCond .ne 6, 3) := by decide +kernel
theorem dX10_shift_8 : decode cX10_shift 8 = .ok (.bipush (-5), 2) := by decide +kernel
theorem dX10_shift_10 : decode cX10_shift 10 = .ok (.ireturn, 1) := by decide +kernel
theorem dX10_shift_11 : decode cX10_shift 11 = .ok (.iload_n 2, 1) := by decide +kernel
theorem dX10_shift_12 : decode cX10_shift 12 = .ok (.iconst 0, 1) := by decide +kernel
theorem dX10_shift_13 : decode cX10_shift 13 = .ok (.iconst 1, 1) := by decide +kernel
theorem dX10_shift_14 : decode cX10_shift 14 = .ok (.invokestatic 91, 3) := by decide +kernel
theorem dX10_shift_17 : decode cX10_shift 17 = .ok (.ifCond .ne 6, 3) := by decide +kernel
theorem dX10_shift_20 : decode cX10_shift 20 = .ok (.bipush (-7), 2) := by decide +kernel
theorem dX10_shift_22 : decode cX10_shift 22 = .ok (.ireturn, 1) := by decide +kernel
theorem dX10_shift_23 : decode cX10_shift 23 = .ok (.aload_n 0, 1) := by decide +kernel
theorem dX10_shift_24 : decode cX10_shift 24 = .ok (.getfield 29, 3) := by decide +kernel
theorem dX10_shift_27 : decode cX10_shift 27 = .ok (.iload_n 1, 1) := by decide +kernel
theorem dX10_shift_28 : decode cX10_shift 28 = .ok (.iaload, 1) := by decide +kernel
theorem dX10_shift_29 : decode cX10_shift 29 = .ok (.istore_n 3, 1) := by decide +kernel
theorem dX10_shift_30 : decode cX10_shift 30 = .ok (.iconst 0, 1) := by decide +kernel
theorem dX10_shift_31 : decode cX10_shift 31 = .ok (.istore 4, 2) := by decide +kernel
theorem dX10_shift_33 : decode cX10_shift 33 = .ok (.bipush 25, 2) := by decide +kernel
theorem dX10_shift_35 : decode cX10_shift 35 = .ok (.istore 5, 2) := by decide +kernel
theorem dX10_shift_37 : decode cX10_shift 37 = .ok (.aload_n 0, 1) := by decide +kernel
theorem dX10_shift_38 : decode cX10_shift 38 = .ok (.invokevirtual 240, 3) := by decide +kernel
theorem dX10_shift_41 : decode cX10_shift 41 = .ok (.iconst 0, 1) := by decide +kernel
theorem dX10_shift_42 : decode cX10_shift 42 = .ok (.istore 6, 2) := by decide +kernel
theorem dX10_shift_44 : decode cX10_shift 44 = .ok (.iload 6, 2) := by decide +kernel
theorem dX10_shift_46 : decode cX10_shift 46 = .ok (.bipush 24, 2) := by decide +kernel
theorem dX10_shift_48 : decode cX10_shift 48 = .ok (.if_icmp .ge 64, 3) := by decide +kernel
theorem dX10_shift_51 : decode cX10_shift 51 = .ok (.aload_n 0, 1) := by decide +kernel
theorem dX10_shift_52 : decode cX10_shift 52 = .ok (.getfield 29, 3) := by decide +kernel
theorem dX10_shift_55 : decode cX10_shift 55 = .ok (.iload_n 1, 1) := by decide +kernel
theorem dX10_shift_56 : decode cX10_shift 56 = .ok (.iload 6, 2) := by decide +kernel
theorem dX10_shift_58 : decode cX10_shift 58 = .ok (.iastore, 1) := by decide +kernel
theorem dX10_shift_59 : decode cX10_shift 59 = .ok (.aload_n 0, 1) := by decide +kernel
theorem dX10_shift_60 : decode cX10_shift 60 = .ok (.iload_n 1, 1) := by decide +kernel
theorem dX10_shift_61 : decode cX10_shift 61 = .ok (.invokevirtual 237, 3) := by decide +kernel
theorem dX10_shift_64 : decode cX10_shift 64 = .ok (.aload_n 0, 1) := by decide +kernel
theorem dX10_shift_65 : decode cX10_shift 65 = .ok (.invokevirtual 267, 3) := by decide +kernel
theorem dX10_shift_68 : decode cX10_shift 68 = .ok (.aload_n 0, 1) := by decide +kernel
theorem dX10_shift_69 : decode cX10_shift 69 = .ok (.getfield 261, 3) := by decide +kernel
theorem dX10_shift_72 : decode cX10_shift 72 = .ok (.iload 5, 2) := by decide +kernel
theorem dX10_shift_74 : decode cX10_shift 74 = .ok (.if_icmp .ge 8, 3) := by decide +kernel
theorem dX10_shift_77 : decode cX10_shift 77 = .ok (.iload 6, 2) := by decide +kernel
theorem dX10_shift_79 : decode cX10_shift 79 = .ok (.goto 5, 3) := by decide +kernel
theorem dX10_shift_82 : decode cX10_shift 82 = .ok (.iload 4, 2) := by decide +kernel
theorem dX10_shift_84 : decode cX10_shift 84 = .ok (.istore 4, 2) := by decide +kernel
theorem dX10_shift_86 : decode cX10_shift 86 = .ok (.aload_n 0, 1) := by decide +kernel
theorem dX10_shift_87 : decode cX10_shift 87 = .ok (.getfield 261, 3) := by decide +kernel
theorem dX10_shift_90 : decode cX10_shift 90 = .ok (.iload 5, 2) := by decide +kernel
theorem dX10_shift_92 : decode cX10_shift 92 = .ok (.if_icmp .ge 10, 3) := by decide +kernel
theorem dX10_shift_95 : decode cX10_shift 95 = .ok (.aload_n 0, 1) := by decide +kernel
theorem dX10_shift_96 : decode cX10_shift 96 = .ok (.getfield 261, 3) := by decide +kernel
theorem dX10_shift_99 : decode cX10_shift 99 = .ok (.goto 5, 3) := by decide +kernel
theorem dX10_shift_102 : decode cX10_shift 102 = .ok (.iload 5, 2) := by decide +kernel
theorem dX10_shift_104 : decode cX10_shift 104 = .ok (.istore 5, 2) := by decide +kernel
theorem dX10_shift_106 : decode cX10_shift 106 = .ok (.iinc 6 1, 3) := by decide +kernel
theorem dX10_shift_109 : decode cX10_shift 109 = .ok (.goto (-65), 3) := by decide +kernel
theorem dX10_shift_112 : decode cX10_shift 112 = .ok (.aload_n 0, 1) := by decide +kernel
theorem dX10_shift_113 : decode cX10_shift 113 = .ok (.getfield 29, 3) := by decide +kernel
theorem dX10_shift_116 : decode cX10_shift 116 = .ok (.iload_n 1, 1) := by decide +kernel
theorem dX10_shift_117 : decode cX10_shift 117 = .ok (.iload_n 3, 1) := by decide +kernel
theorem dX10_shift_118 : decode cX10_shift 118 = .ok (.iastore, 1) := by decide +kernel
theorem dX10_shift_119 : decode cX10_shift 119 = .ok (.iload_n 2, 1) := by decide +kernel
theorem dX10_shift_120 : decode cX10_shift 120 = .ok (.ifCond .ne 8, 3) := by decide +kernel
theorem dX10_shift_123 : decode cX10_shift 123 = .ok (.iload 4, 2) := by decide +kernel
theorem dX10_shift_125 : decode cX10_shift 125 = .ok (.goto 5, 3) := by decide +kernel
theorem dX10_shift_128 : decode cX10_shift 128 = .ok (.iload 5, 2) := by decide +kernel
theorem dX10_shift_130 : decode cX10_shift 130 = .ok (.ireturn, 1) := by decide +kernel
theorem dX10_holdsBy_0 : decode cX10_holdsBy 0 = .ok (.iconst 0, 1) := by decide +kernel
theorem dX10_holdsBy_1 : decode cX10_holdsBy 1 = .ok (.istore 5, 2) := by decide +kernel
theorem dX10_holdsBy_3 : decode cX10_holdsBy 3 = .ok (.iload 5, 2) := by decide +kernel
theorem dX10_holdsBy_5 : decode cX10_holdsBy 5 = .ok (.bipush 36, 2) := by decide +kernel
theorem dX10_holdsBy_7 : decode cX10_holdsBy 7 = .ok (.if_icmp .ge 46, 3) := by decide +kernel
theorem dX10_holdsBy_10 : decode cX10_holdsBy 10 = .ok (.lload_n 1, 1) := by decide +kernel
theorem dX10_holdsBy_11 : decode cX10_holdsBy 11 = .ok (.aload_n 0, 1) := by decide +kernel
theorem dX10_holdsBy_12 : decode cX10_holdsBy 12 = .ok (.getfield 7, 3) := by decide +kernel
theorem dX10_holdsBy_15 : decode cX10_holdsBy 15 = .ok (.iconst 0, 1) := by decide +kernel
theorem dX10_holdsBy_16 : decode cX10_holdsBy 16 = .ok (.laload, 1) := by decide +kernel
theorem dX10_holdsBy_17 : decode cX10_holdsBy 17 = .ok (.ldc2_w 114, 3) := by decide +kernel
theorem dX10_holdsBy_20 : decode cX10_holdsBy 20 = .ok (.lxor, 1) := by decide +kernel
theorem dX10_holdsBy_21 : decode cX10_holdsBy 21 = .ok (.land, 1) := by decide +kernel
theorem dX10_holdsBy_22 : decode cX10_holdsBy 22 = .ok (.iload 5, 2) := by decide +kernel
theorem dX10_holdsBy_24 : decode cX10_holdsBy 24 = .ok (.invokestatic 100, 3) := by decide +kernel
theorem dX10_holdsBy_27 : decode cX10_holdsBy 27 = .ok (.ifCond .eq 20, 3) := by decide +kernel
theorem dX10_holdsBy_30 : decode cX10_holdsBy 30 = .ok (.aload_n 0, 1) := by decide +kernel
theorem dX10_holdsBy_31 : decode cX10_holdsBy 31 = .ok (.iload 5, 2) := by decide +kernel
theorem dX10_holdsBy_33 : decode cX10_holdsBy 33 = .ok (.iload 4, 2) := by decide +kernel
theorem dX10_holdsBy_35 : decode cX10_holdsBy 35 = .ok (.invokevirtual 249, 3) := by decide +kernel
theorem dX10_holdsBy_38 : decode cX10_holdsBy 38 = .ok (.invokestatic 255, 3) := by decide +kernel
theorem dX10_holdsBy_41 : decode cX10_holdsBy 41 = .ok (.iload_n 3, 1) := by decide +kernel
theorem dX10_holdsBy_42 : decode cX10_holdsBy 42 = .ok (.if_icmp .le 5, 3) := by decide +kernel
theorem dX10_holdsBy_45 : decode cX10_holdsBy 45 = .ok (.iconst 0, 1) := by decide +kernel
theorem dX10_holdsBy_46 : decode cX10_holdsBy 46 = .ok (.ireturn, 1) := by decide +kernel
theorem dX10_holdsBy_47 : decode cX10_holdsBy 47 = .ok (.iinc 5 1, 3) := by decide +kernel
theorem dX10_holdsBy_50 : decode cX10_holdsBy 50 = .ok (.goto (-47), 3) := by decide +kernel
theorem dX10_holdsBy_53 : decode cX10_holdsBy 53 = .ok (.iconst 1, 1) := by decide +kernel
theorem dX10_holdsBy_54 : decode cX10_holdsBy 54 = .ok (.ireturn, 1) := by decide +kernel
theorem dX10_holds__0 : decode cX10_holds_ 0 = .ok (.lload_n 1, 1) := by decide +kernel
theorem dX10_holds__1 : decode cX10_holds_ 1 = .ok (.invokestatic 104, 3) := by decide +kernel
theorem dX10_holds__4 : decode cX10_holds_ 4 = .ok (.ifCond .ne 6, 3) := by decide +kernel
theorem dX10_holds__7 : decode cX10_holds_ 7 = .ok (.bipush (-5), 2) := by decide +kernel
theorem dX10_holds__9 : decode cX10_holds_ 9 = .ok (.ireturn, 1) := by decide +kernel
theorem dX10_holds__10 : decode cX10_holds_ 10 = .ok (.iload_n 3, 1) := by decide +kernel
theorem dX10_holds__11 : decode cX10_holds_ 11 = .ok (.iconst 0, 1) := by decide +kernel
theorem dX10_holds__12 : decode cX10_holds_ 12 = .ok (.bipush 24, 2) := by decide +kernel
theorem dX10_holds__14 : decode cX10_holds_ 14 = .ok (.invokestatic 91, 3) := by decide +kernel
theorem dX10_holds__17 : decode cX10_holds_ 17 = .ok (.ifCond .ne 6, 3) := by decide +kernel
theorem dX10_holds__20 : decode cX10_holds_ 20 = .ok (.bipush (-7), 2) := by decide +kernel
theorem dX10_holds__22 : decode cX10_holds_ 22 = .ok (.ireturn, 1) := by decide +kernel
theorem dX10_holds__23 : decode cX10_holds_ 23 = .ok (.aload_n 0, 1) := by decide +kernel
theorem dX10_holds__24 : decode cX10_holds_ 24 = .ok (.invokevirtual 240, 3) := by decide +kernel
theorem dX10_holds__27 : decode cX10_holds_ 27 = .ok (.aload_n 0, 1) := by decide +kernel
theorem dX10_holds__28 : decode cX10_holds_ 28 = .ok (.lload_n 1, 1) := by decide +kernel
theorem dX10_holds__29 : decode cX10_holds_ 29 = .ok (.iload_n 3, 1) := by decide +kernel
theorem dX10_holds__30 : decode cX10_holds_ 30 = .ok (.aload_n 0, 1) := by decide +kernel
theorem dX10_holds__31 : decode cX10_holds_ 31 = .ok (.invokevirtual 243, 3) := by decide +kernel
theorem dX10_holds__34 : decode cX10_holds_ 34 = .ok (.invokevirtual 294, 3) := by decide +kernel
theorem dX10_holds__37 : decode cX10_holds_ 37 = .ok (.ifCond .eq 7, 3) := by decide +kernel
theorem dX10_holds__40 : decode cX10_holds_ 40 = .ok (.iconst 1, 1) := by decide +kernel
theorem dX10_holds__41 : decode cX10_holds_ 41 = .ok (.goto 4, 3) := by decide +kernel
theorem dX10_holds__44 : decode cX10_holds_ 44 = .ok (.iconst 0, 1) := by decide +kernel
theorem dX10_holds__45 : decode cX10_holds_ 45 = .ok (.ireturn, 1) := by decide +kernel
theorem dX10_bribes_0 : decode cX10_bribes 0 = .ok (.lload_n 1, 1) := by decide +kernel
theorem dX10_bribes_1 : decode cX10_bribes 1 = .ok (.invokestatic 104, 3) := by decide +kernel
theorem dX10_bribes_4 : decode cX10_bribes 4 = .ok (.ifCond .eq 13, 3) := by decide +kernel
theorem dX10_bribes_7 : decode cX10_bribes 7 = .ok (.iload_n 3, 1) := by decide +kernel
theorem dX10_bribes_8 : decode cX10_bribes 8 = .ok (.iconst 0, 1) := by decide +kernel
theorem dX10_bribes_9 : decode cX10_bribes 9 = .ok (.bipush 24, 2) := by decide +kernel
theorem dX10_bribes_11 : decode cX10_bribes 11 = .ok (.invokestatic 91, 3) := by decide +kernel
theorem dX10_bribes_14 : decode cX10_bribes 14 = .ok (.ifCond .ne 5, 3) := by decide +kernel
theorem dX10_bribes_17 : decode cX10_bribes 17 = .ok (.iconst 0, 1) := by decide +kernel
theorem dX10_bribes_18 : decode cX10_bribes 18 = .ok (.ireturn, 1) := by decide +kernel
theorem dX10_bribes_19 : decode cX10_bribes 19 = .ok (.aload_n 0, 1) := by decide +kernel
theorem dX10_bribes_20 : decode cX10_bribes 20 = .ok (.invokevirtual 240, 3) := by decide +kernel
theorem dX10_bribes_23 : decode cX10_bribes 23 = .ok (.iconst 0, 1) := by decide +kernel
theorem dX10_bribes_24 : decode cX10_bribes 24 = .ok (.istore 4, 2) := by decide +kernel
theorem dX10_bribes_26 : decode cX10_bribes 26 = .ok (.iconst 0, 1) := by decide +kernel
theorem dX10_bribes_27 : decode cX10_bribes 27 = .ok (.istore 5, 2) := by decide +kernel
theorem dX10_bribes_29 : decode cX10_bribes 29 = .ok (.iload 5, 2) := by decide +kernel
theorem dX10_bribes_31 : decode cX10_bribes 31 = .ok (.aload_n 0, 1) := by decide +kernel
theorem dX10_bribes_32 : decode cX10_bribes 32 = .ok (.invokevirtual 243, 3) := by decide +kernel
theorem dX10_bribes_35 : decode cX10_bribes 35 = .ok (.if_icmp .gt 40, 3) := by decide +kernel
theorem dX10_bribes_38 : decode cX10_bribes 38 = .ok (.iload 4, 2) := by decide +kernel
theorem dX10_bribes_40 : decode cX10_bribes 40 = .ok (.aload_n 0, 1) := by decide +kernel
theorem dX10_bribes_41 : decode cX10_bribes 41 = .ok (.lload_n 1, 1) := by decide +kernel
theorem dX10_bribes_42 : decode cX10_bribes 42 = .ok (.iload_n 3, 1) := by decide +kernel
theorem dX10_bribes_43 : decode cX10_bribes 43 = .ok (.aload_n 0, 1) := by decide +kernel
theorem dX10_bribes_44 : decode cX10_bribes 44 = .ok (.invokevirtual 243, 3) := by decide +kernel
theorem dX10_bribes_47 : decode cX10_bribes 47 = .ok (.iload 5, 2) := by decide +kernel
theorem dX10_bribes_49 : decode cX10_bribes 49 = .ok (.iconst (-1), 1) := by decide +kernel
theorem dX10_bribes_50 : decode cX10_bribes 50 = .ok (.ixor, 1) := by decide +kernel
theorem dX10_bribes_51 : decode cX10_bribes 51 = .ok (.iand, 1) := by decide +kernel
theorem dX10_bribes_52 : decode cX10_bribes 52 = .ok (.invokevirtual 294, 3) := by decide +kernel
theorem dX10_bribes_55 : decode cX10_bribes 55 = .ok (.ifCond .eq 10, 3) := by decide +kernel
theorem dX10_bribes_58 : decode cX10_bribes 58 = .ok (.iconst 1, 1) := by decide +kernel
theorem dX10_bribes_59 : decode cX10_bribes 59 = .ok (.iload 5, 2) := by decide +kernel
theorem dX10_bribes_61 : decode cX10_bribes 61 = .ok (.ishl, 1) := by decide +kernel
theorem dX10_bribes_62 : decode cX10_bribes 62 = .ok (.goto 4, 3) := by decide +kernel
theorem dX10_bribes_65 : decode cX10_bribes 65 = .ok (.iconst 0, 1) := by decide +kernel
theorem dX10_bribes_66 : decode cX10_bribes 66 = .ok (.ior, 1) := by decide +kernel
theorem dX10_bribes_67 : decode cX10_bribes 67 = .ok (.istore 4, 2) := by decide +kernel
theorem dX10_bribes_69 : decode cX10_bribes 69 = .ok (.iinc 5 1, 3) := by decide +kernel
theorem dX10_bribes_72 : decode cX10_bribes 72 = .ok (.goto (-43), 3) := by decide +kernel
theorem dX10_bribes_75 : decode cX10_bribes 75 = .ok (.iload 4, 2) := by decide +kernel
theorem dX10_bribes_77 : decode cX10_bribes 77 = .ok (.ireturn, 1) := by decide +kernel
theorem dX10_fewest_0 : decode cX10_fewest 0 = .ok (.lload_n 1, 1) := by decide +kernel
theorem dX10_fewest_1 : decode cX10_fewest 1 = .ok (.invokestatic 104, 3) := by decide +kernel
theorem dX10_fewest_4 : decode cX10_fewest 4 = .ok (.ifCond .ne 6, 3) := by decide +kernel
theorem dX10_fewest_7 : decode cX10_fewest 7 = .ok (.bipush (-5), 2) := by decide +kernel
theorem dX10_fewest_9 : decode cX10_fewest 9 = .ok (.ireturn, 1) := by decide +kernel
theorem dX10_fewest_10 : decode cX10_fewest 10 = .ok (.iload_n 3, 1) := by decide +kernel
theorem dX10_fewest_11 : decode cX10_fewest 11 = .ok (.iconst 0, 1) := by decide +kernel
theorem dX10_fewest_12 : decode cX10_fewest 12 = .ok (.bipush 24, 2) := by decide +kernel
theorem dX10_fewest_14 : decode cX10_fewest 14 = .ok (.invokestatic 91, 3) := by decide +kernel
theorem dX10_fewest_17 : decode cX10_fewest 17 = .ok (.ifCond .eq 13, 3) := by decide +kernel
theorem dX10_fewest_20 : decode cX10_fewest 20 = .ok (.iload 4, 2) := by decide +kernel
theorem dX10_fewest_22 : decode cX10_fewest 22 = .ok (.iconst 0, 1) := by decide +kernel
theorem dX10_fewest_23 : decode cX10_fewest 23 = .ok (.iconst 1, 1) := by decide +kernel
theorem dX10_fewest_24 : decode cX10_fewest 24 = .ok (.invokestatic 91, 3) := by decide +kernel
theorem dX10_fewest_27 : decode cX10_fewest 27 = .ok (.ifCond .ne 6, 3) := by decide +kernel
theorem dX10_fewest_30 : decode cX10_fewest 30 = .ok (.bipush (-7), 2) := by decide +kernel
theorem dX10_fewest_32 : decode cX10_fewest 32 = .ok (.ireturn, 1) := by decide +kernel
theorem dX10_fewest_33 : decode cX10_fewest 33 = .ok (.aload_n 0, 1) := by decide +kernel
theorem dX10_fewest_34 : decode cX10_fewest 34 = .ok (.invokevirtual 240, 3) := by decide +kernel
theorem dX10_fewest_37 : decode cX10_fewest 37 = .ok (.iconst (-1), 1) := by decide +kernel
theorem dX10_fewest_38 : decode cX10_fewest 38 = .ok (.istore 5, 2) := by decide +kernel
theorem dX10_fewest_40 : decode cX10_fewest 40 = .ok (.iconst 0, 1) := by decide +kernel
theorem dX10_fewest_41 : decode cX10_fewest 41 = .ok (.istore 6, 2) := by decide +kernel
theorem dX10_fewest_43 : decode cX10_fewest 43 = .ok (.iload 6, 2) := by decide +kernel
theorem dX10_fewest_45 : decode cX10_fewest 45 = .ok (.aload_n 0, 1) := by decide +kernel
theorem dX10_fewest_46 : decode cX10_fewest 46 = .ok (.invokevirtual 243, 3) := by decide +kernel
theorem dX10_fewest_49 : decode cX10_fewest 49 = .ok (.if_icmp .gt 62, 3) := by decide +kernel
theorem dX10_fewest_52 : decode cX10_fewest 52 = .ok (.iload 5, 2) := by decide +kernel
theorem dX10_fewest_54 : decode cX10_fewest 54 = .ok (.iconst (-1), 1) := by decide +kernel
theorem dX10_fewest_55 : decode cX10_fewest 55 = .ok (.if_icmp .eq 18, 3) := by decide +kernel
theorem dX10_fewest_58 : decode cX10_fewest 58 = .ok (.iload 6, 2) := by decide +kernel
theorem dX10_fewest_60 : decode cX10_fewest 60 = .ok (.i2l, 1) := by decide +kernel
theorem dX10_fewest_61 : decode cX10_fewest 61 = .ok (.invokestatic 116, 3) := by decide +kernel
theorem dX10_fewest_64 : decode cX10_fewest 64 = .ok (.iload 5, 2) := by decide +kernel
theorem dX10_fewest_66 : decode cX10_fewest 66 = .ok (.i2l, 1) := by decide +kernel
theorem dX10_fewest_67 : decode cX10_fewest 67 = .ok (.invokestatic 116, 3) := by decide +kernel
theorem dX10_fewest_70 : decode cX10_fewest 70 = .ok (.if_icmp .ge 7, 3) := by decide +kernel
theorem dX10_fewest_73 : decode cX10_fewest 73 = .ok (.iconst 1, 1) := by decide +kernel
theorem dX10_fewest_74 : decode cX10_fewest 74 = .ok (.goto 4, 3) := by decide +kernel
theorem dX10_fewest_77 : decode cX10_fewest 77 = .ok (.iconst 0, 1) := by decide +kernel
theorem dX10_fewest_78 : decode cX10_fewest 78 = .ok (.istore 7, 2) := by decide +kernel
theorem dX10_fewest_80 : decode cX10_fewest 80 = .ok (.iload 7, 2) := by decide +kernel
theorem dX10_fewest_82 : decode cX10_fewest 82 = .ok (.ifCond .eq 19, 3) := by decide +kernel
theorem dX10_fewest_85 : decode cX10_fewest 85 = .ok (.aload_n 0, 1) := by decide +kernel
theorem dX10_fewest_86 : decode cX10_fewest 86 = .ok (.lload_n 1, 1) := by decide +kernel
theorem dX10_fewest_87 : decode cX10_fewest 87 = .ok (.iload_n 3, 1) := by decide +kernel
theorem dX10_fewest_88 : decode cX10_fewest 88 = .ok (.iload 6, 2) := by decide +kernel
theorem dX10_fewest_90 : decode cX10_fewest 90 = .ok (.invokevirtual 294, 3) := by decide +kernel
theorem dX10_fewest_93 : decode cX10_fewest 93 = .ok (.ifCond .eq 8, 3) := by decide +kernel
theorem dX10_fewest_96 : decode cX10_fewest 96 = .ok (.iload 6, 2) := by decide +kernel
theorem dX10_fewest_98 : decode cX10_fewest 98 = .ok (.goto 5, 3) := by decide +kernel
theorem dX10_fewest_101 : decode cX10_fewest 101 = .ok (.iload 5, 2) := by decide +kernel
theorem dX10_fewest_103 : decode cX10_fewest 103 = .ok (.istore 5, 2) := by decide +kernel
theorem dX10_fewest_105 : decode cX10_fewest 105 = .ok (.iinc 6 1, 3) := by decide +kernel
theorem dX10_fewest_108 : decode cX10_fewest 108 = .ok (.goto (-65), 3) := by decide +kernel
theorem dX10_fewest_111 : decode cX10_fewest 111 = .ok (.iload 4, 2) := by decide +kernel
theorem dX10_fewest_113 : decode cX10_fewest 113 = .ok (.ifCond .eq 9, 3) := by decide +kernel
theorem dX10_fewest_116 : decode cX10_fewest 116 = .ok (.iload 5, 2) := by decide +kernel
theorem dX10_fewest_118 : decode cX10_fewest 118 = .ok (.iconst (-1), 1) := by decide +kernel
theorem dX10_fewest_119 : decode cX10_fewest 119 = .ok (.if_icmp .ne 8, 3) := by decide +kernel
theorem dX10_fewest_122 : decode cX10_fewest 122 = .ok (.iload 5, 2) := by decide +kernel
theorem dX10_fewest_124 : decode cX10_fewest 124 = .ok (.goto 9, 3) := by decide +kernel
theorem dX10_fewest_127 : decode cX10_fewest 127 = .ok (.iload 5, 2) := by decide +kernel
theorem dX10_fewest_129 : decode cX10_fewest 129 = .ok (.i2l, 1) := by decide +kernel
theorem dX10_fewest_130 : decode cX10_fewest 130 = .ok (.invokestatic 116, 3) := by decide +kernel
theorem dX10_fewest_133 : decode cX10_fewest 133 = .ok (.ireturn, 1) := by decide +kernel
theorem dX10_sheetWrong_0 : decode cX10_sheetWrong 0 = .ok (.iload_n 1, 1) := by decide +kernel
theorem dX10_sheetWrong_1 : decode cX10_sheetWrong 1 = .ok (.iconst 0, 1) := by decide +kernel
theorem dX10_sheetWrong_2 : decode cX10_sheetWrong 2 = .ok (.iconst 3, 1) := by decide +kernel
theorem dX10_sheetWrong_3 : decode cX10_sheetWrong 3 = .ok (.invokestatic 91, 3) := by decide +kernel
theorem dX10_sheetWrong_6 : decode cX10_sheetWrong 6 = .ok (.ifCond .ne 6, 3) := by decide +kernel
theorem dX10_sheetWrong_9 : decode cX10_sheetWrong 9 = .ok (.bipush (-2), 2) := by decide +kernel
theorem dX10_sheetWrong_11 : decode cX10_sheetWrong 11 = .ok (.ireturn, 1) := by decide +kernel
theorem dX10_sheetWrong_12 : decode cX10_sheetWrong 12 = .ok (.aload_n 0, 1) := by decide +kernel
theorem dX10_sheetWrong_13 : decode cX10_sheetWrong 13 = .ok (.getfield 50, 3) := by decide +kernel
theorem dX10_sheetWrong_16 : decode cX10_sheetWrong 16 = .ok (.iload_n 1, 1) := by decide +kernel
theorem dX10_sheetWrong_17 : decode cX10_sheetWrong 17 = .ok (.iaload, 1) := by decide +kernel
theorem dX10_sheetWrong_18 : decode cX10_sheetWrong 18 = .ok (.iconst (-1), 1) := by decide +kernel
theorem dX10_sheetWrong_19 : decode cX10_sheetWrong 19 = .ok (.if_icmp .ne 6, 3) := by decide +kernel
theorem dX10_sheetWrong_22 : decode cX10_sheetWrong 22 = .ok (.bipush (-11), 2) := by decide +kernel
theorem dX10_sheetWrong_24 : decode cX10_sheetWrong 24 = .ok (.ireturn, 1) := by decide +kernel
theorem dX10_sheetWrong_25 : decode cX10_sheetWrong 25 = .ok (.aload_n 0, 1) := by decide +kernel
theorem dX10_sheetWrong_26 : decode cX10_sheetWrong 26 = .ok (.getfield 53, 3) := by decide +kernel
theorem dX10_sheetWrong_29 : decode cX10_sheetWrong 29 = .ok (.iload_n 1, 1) := by decide +kernel
theorem dX10_sheetWrong_30 : decode cX10_sheetWrong 30 = .ok (.iaload, 1) := by decide +kernel
theorem dX10_sheetWrong_31 : decode cX10_sheetWrong 31 = .ok (.bipush 24, 2) := by decide +kernel
theorem dX10_sheetWrong_33 : decode cX10_sheetWrong 33 = .ok (.if_icmp .eq 8, 3) := by decide +kernel
theorem dX10_sheetWrong_36 : decode cX10_sheetWrong 36 = .ok (.bipush (-2), 2) := by decide +kernel
theorem dX10_sheetWrong_38 : decode cX10_sheetWrong 38 = .ok (.goto 16, 3) := by decide +kernel
theorem dX10_sheetWrong_41 : decode cX10_sheetWrong 41 = .ok (.iload_n 2, 1) := by decide +kernel
theorem dX10_sheetWrong_42 : decode cX10_sheetWrong 42 = .ok (.invokestatic 110, 3) := by decide +kernel
theorem dX10_sheetWrong_45 : decode cX10_sheetWrong 45 = .ok (.ifCond .eq 7, 3) := by decide +kernel
theorem dX10_sheetWrong_48 : decode cX10_sheetWrong 48 = .ok (.iconst 0, 1) := by decide +kernel
theorem dX10_sheetWrong_49 : decode cX10_sheetWrong 49 = .ok (.goto 5, 3) := by decide +kernel
theorem dX10_sheetWrong_52 : decode cX10_sheetWrong 52 = .ok (.bipush (-5), 2) := by decide +kernel
theorem dX10_sheetWrong_54 : decode cX10_sheetWrong 54 = .ok (.ireturn, 1) := by decide +kernel
theorem dX10_unlike_0 : decode cX10_unlike 0 = .ok (.aload_n 0, 1) := by decide +kernel
theorem dX10_unlike_1 : decode cX10_unlike 1 = .ok (.iload_n 2, 1) := by decide +kernel
theorem dX10_unlike_2 : decode cX10_unlike 2 = .ok (.iload_n 3, 1) := by decide +kernel
theorem dX10_unlike_3 : decode cX10_unlike 3 = .ok (.invokevirtual 249, 3) := by decide +kernel
theorem dX10_unlike_6 : decode cX10_unlike 6 = .ok (.istore 4, 2) := by decide +kernel
theorem dX10_unlike_8 : decode cX10_unlike 8 = .ok (.iconst 0, 1) := by decide +kernel
theorem dX10_unlike_9 : decode cX10_unlike 9 = .ok (.istore 5, 2) := by decide +kernel
theorem dX10_unlike_11 : decode cX10_unlike 11 = .ok (.iload 5, 2) := by decide +kernel
theorem dX10_unlike_13 : decode cX10_unlike 13 = .ok (.bipush 24, 2) := by decide +kernel
theorem dX10_unlike_15 : decode cX10_unlike 15 = .ok (.if_icmp .ge 36, 3) := by decide +kernel
theorem dX10_unlike_18 : decode cX10_unlike 18 = .ok (.aload_n 0, 1) := by decide +kernel
theorem dX10_unlike_19 : decode cX10_unlike 19 = .ok (.getfield 56, 3) := by decide +kernel
theorem dX10_unlike_22 : decode cX10_unlike 22 = .ok (.bipush 40, 2) := by decide +kernel
theorem dX10_unlike_24 : decode cX10_unlike 24 = .ok (.iload_n 1, 1) := by decide +kernel
theorem dX10_unlike_25 : decode cX10_unlike 25 = .ok (.imul, 1) := by decide +kernel
theorem dX10_unlike_26 : decode cX10_unlike 26 = .ok (.iload 5, 2) := by decide +kernel
theorem dX10_unlike_28 : decode cX10_unlike 28 = .ok (.iadd, 1) := by decide +kernel
theorem dX10_unlike_29 : decode cX10_unlike 29 = .ok (.iaload, 1) := by decide +kernel
theorem dX10_unlike_30 : decode cX10_unlike 30 = .ok (.iconst 1, 1) := by decide +kernel
theorem dX10_unlike_31 : decode cX10_unlike 31 = .ok (.iload 4, 2) := by decide +kernel
theorem dX10_unlike_33 : decode cX10_unlike 33 = .ok (.iload 5, 2) := by decide +kernel
theorem dX10_unlike_35 : decode cX10_unlike 35 = .ok (.ishr, 1) := by decide +kernel
theorem dX10_unlike_36 : decode cX10_unlike 36 = .ok (.iconst 1, 1) := by decide +kernel
theorem dX10_unlike_37 : decode cX10_unlike 37 = .ok (.iand, 1) := by decide +kernel
theorem dX10_unlike_38 : decode cX10_unlike 38 = .ok (.isub, 1) := by decide +kernel
theorem dX10_unlike_39 : decode cX10_unlike 39 = .ok (.if_icmp .eq 6, 3) := by decide +kernel
theorem dX10_unlike_42 : decode cX10_unlike 42 = .ok (.iload 5, 2) := by decide +kernel
theorem dX10_unlike_44 : decode cX10_unlike 44 = .ok (.ireturn, 1) := by decide +kernel
theorem dX10_unlike_45 : decode cX10_unlike 45 = .ok (.iinc 5 1, 3) := by decide +kernel
theorem dX10_unlike_48 : decode cX10_unlike 48 = .ok (.goto (-37), 3) := by decide +kernel
theorem dX10_unlike_51 : decode cX10_unlike 51 = .ok (.iconst (-1), 1) := by decide +kernel
theorem dX10_unlike_52 : decode cX10_unlike 52 = .ok (.ireturn, 1) := by decide +kernel
theorem dX10_judge_0 : decode cX10_judge 0 = .ok (.aload_n 0, 1) := by decide +kernel
theorem dX10_judge_1 : decode cX10_judge 1 = .ok (.iload_n 1, 1) := by decide +kernel
theorem dX10_judge_2 : decode cX10_judge 2 = .ok (.iload_n 2, 1) := by decide +kernel
theorem dX10_judge_3 : decode cX10_judge 3 = .ok (.invokevirtual 298, 3) := by decide +kernel
theorem dX10_judge_6 : decode cX10_judge 6 = .ok (.istore_n 3, 1) := by decide +kernel
theorem dX10_judge_7 : decode cX10_judge 7 = .ok (.iload_n 3, 1) := by decide +kernel
theorem dX10_judge_8 : decode cX10_judge 8 = .ok (.ifCond .eq 5, 3) := by decide +kernel
theorem dX10_judge_11 : decode cX10_judge 11 = .ok (.iload_n 3, 1) := by decide +kernel
theorem dX10_judge_12 : decode cX10_judge 12 = .ok (.ireturn, 1) := by decide +kernel
theorem dX10_judge_13 : decode cX10_judge 13 = .ok (.aload_n 0, 1) := by decide +kernel
theorem dX10_judge_14 : decode cX10_judge 14 = .ok (.invokevirtual 240, 3) := by decide +kernel
theorem dX10_judge_17 : decode cX10_judge 17 = .ok (.aload_n 0, 1) := by decide +kernel
theorem dX10_judge_18 : decode cX10_judge 18 = .ok (.iload_n 1, 1) := by decide +kernel
theorem dX10_judge_19 : decode cX10_judge 19 = .ok (.iload_n 2, 1) := by decide +kernel
theorem dX10_judge_20 : decode cX10_judge 20 = .ok (.aload_n 0, 1) := by decide +kernel
theorem dX10_judge_21 : decode cX10_judge 21 = .ok (.invokevirtual 243, 3) := by decide +kernel
theorem dX10_judge_24 : decode cX10_judge 24 = .ok (.invokevirtual 301, 3) := by decide +kernel
theorem dX10_judge_27 : decode cX10_judge 27 = .ok (.ireturn, 1) := by decide +kernel
theorem dX10_which_0 : decode cX10_which 0 = .ok (.aload_n 0, 1) := by decide +kernel
theorem dX10_which_1 : decode cX10_which 1 = .ok (.iload_n 1, 1) := by decide +kernel
theorem dX10_which_2 : decode cX10_which 2 = .ok (.iconst 0, 1) := by decide +kernel
theorem dX10_which_3 : decode cX10_which 3 = .ok (.invokevirtual 298, 3) := by decide +kernel
theorem dX10_which_6 : decode cX10_which 6 = .ok (.ifCond .eq 7, 3) := by decide +kernel
theorem dX10_which_9 : decode cX10_which 9 = .ok (.ldc2_w 108, 3) := by decide +kernel
theorem dX10_which_12 : decode cX10_which 12 = .ok (.lreturn, 1) := by decide +kernel
theorem dX10_which_13 : decode cX10_which 13 = .ok (.aload_n 0, 1) := by decide +kernel
theorem dX10_which_14 : decode cX10_which 14 = .ok (.invokevirtual 240, 3) := by decide +kernel
theorem dX10_which_17 : decode cX10_which 17 = .ok (.lconst 0, 1) := by decide +kernel
theorem dX10_which_18 : decode cX10_which 18 = .ok (.lstore_n 2, 1) := by decide +kernel
theorem dX10_which_19 : decode cX10_which 19 = .ok (.iconst 0, 1) := by decide +kernel
theorem dX10_which_20 : decode cX10_which 20 = .ok (.istore 4, 2) := by decide +kernel
theorem dX10_which_22 : decode cX10_which 22 = .ok (.iload 4, 2) := by decide +kernel
theorem dX10_which_24 : decode cX10_which 24 = .ok (.bipush 36, 2) := by decide +kernel
theorem dX10_which_26 : decode cX10_which 26 = .ok (.if_icmp .ge 35, 3) := by decide +kernel
theorem dX10_which_29 : decode cX10_which 29 = .ok (.lload_n 2, 1) := by decide +kernel
theorem dX10_which_30 : decode cX10_which 30 = .ok (.aload_n 0, 1) := by decide +kernel
theorem dX10_which_31 : decode cX10_which 31 = .ok (.iload_n 1, 1) := by decide +kernel
theorem dX10_which_32 : decode cX10_which 32 = .ok (.iload 4, 2) := by decide +kernel
theorem dX10_which_34 : decode cX10_which 34 = .ok (.aload_n 0, 1) := by decide +kernel
theorem dX10_which_35 : decode cX10_which 35 = .ok (.invokevirtual 243, 3) := by decide +kernel
theorem dX10_which_38 : decode cX10_which 38 = .ok (.invokevirtual 301, 3) := by decide +kernel
theorem dX10_which_41 : decode cX10_which 41 = .ok (.iconst (-1), 1) := by decide +kernel
theorem dX10_which_42 : decode cX10_which 42 = .ok (.if_icmp .ne 10, 3) := by decide +kernel
theorem dX10_which_45 : decode cX10_which 45 = .ok (.lconst 1, 1) := by decide +kernel
theorem dX10_which_46 : decode cX10_which 46 = .ok (.iload 4, 2) := by decide +kernel
theorem dX10_which_48 : decode cX10_which 48 = .ok (.lshl, 1) := by decide +kernel
theorem dX10_which_49 : decode cX10_which 49 = .ok (.goto 4, 3) := by decide +kernel
theorem dX10_which_52 : decode cX10_which 52 = .ok (.lconst 0, 1) := by decide +kernel
theorem dX10_which_53 : decode cX10_which 53 = .ok (.lor, 1) := by decide +kernel
theorem dX10_which_54 : decode cX10_which 54 = .ok (.lstore_n 2, 1) := by decide +kernel
theorem dX10_which_55 : decode cX10_which 55 = .ok (.iinc 4 1, 3) := by decide +kernel
theorem dX10_which_58 : decode cX10_which 58 = .ok (.goto (-36), 3) := by decide +kernel
theorem dX10_which_61 : decode cX10_which 61 = .ok (.lload_n 2, 1) := by decide +kernel
theorem dX10_which_62 : decode cX10_which 62 = .ok (.lreturn, 1) := by decide +kernel
theorem dX10_laws_0 : decode cX10_laws 0 = .ok (.aload_n 0, 1) := by decide +kernel
theorem dX10_laws_1 : decode cX10_laws 1 = .ok (.iload_n 1, 1) := by decide +kernel
theorem dX10_laws_2 : decode cX10_laws 2 = .ok (.iload_n 2, 1) := by decide +kernel
theorem dX10_laws_3 : decode cX10_laws 3 = .ok (.invokevirtual 298, 3) := by decide +kernel
theorem dX10_laws_6 : decode cX10_laws 6 = .ok (.istore_n 3, 1) := by decide +kernel
theorem dX10_laws_7 : decode cX10_laws 7 = .ok (.iload_n 3, 1) := by decide +kernel
theorem dX10_laws_8 : decode cX10_laws 8 = .ok (.ifCond .eq 5, 3) := by decide +kernel
theorem dX10_laws_11 : decode cX10_laws 11 = .ok (.iload_n 3, 1) := by decide +kernel
theorem dX10_laws_12 : decode cX10_laws 12 = .ok (.ireturn, 1) := by decide +kernel
theorem dX10_laws_13 : decode cX10_laws 13 = .ok (.aload_n 0, 1) := by decide +kernel
theorem dX10_laws_14 : decode cX10_laws 14 = .ok (.getfield 123, 3) := by decide +kernel
theorem dX10_laws_17 : decode cX10_laws 17 = .ok (.istore 4, 2) := by decide +kernel
theorem dX10_laws_19 : decode cX10_laws 19 = .ok (.iconst 0, 1) := by decide +kernel
theorem dX10_laws_20 : decode cX10_laws 20 = .ok (.istore 5, 2) := by decide +kernel
theorem dX10_laws_22 : decode cX10_laws 22 = .ok (.iconst 0, 1) := by decide +kernel
theorem dX10_laws_23 : decode cX10_laws 23 = .ok (.istore 6, 2) := by decide +kernel
theorem dX10_laws_25 : decode cX10_laws 25 = .ok (.iload 6, 2) := by decide +kernel
theorem dX10_laws_27 : decode cX10_laws 27 = .ok (.aload_n 0, 1) := by decide +kernel
theorem dX10_laws_28 : decode cX10_laws 28 = .ok (.getfield 120, 3) := by decide +kernel
theorem dX10_laws_31 : decode cX10_laws 31 = .ok (.if_icmp .ge 46, 3) := by decide +kernel
theorem dX10_laws_34 : decode cX10_laws 34 = .ok (.aload_n 0, 1) := by decide +kernel
theorem dX10_laws_35 : decode cX10_laws 35 = .ok (.iload 6, 2) := by decide +kernel
theorem dX10_laws_37 : decode cX10_laws 37 = .ok (.putfield 123, 3) := by decide +kernel
theorem dX10_laws_40 : decode cX10_laws 40 = .ok (.aload_n 0, 1) := by decide +kernel
theorem dX10_laws_41 : decode cX10_laws 41 = .ok (.invokevirtual 240, 3) := by decide +kernel
theorem dX10_laws_44 : decode cX10_laws 44 = .ok (.iload 5, 2) := by decide +kernel
theorem dX10_laws_46 : decode cX10_laws 46 = .ok (.aload_n 0, 1) := by decide +kernel
theorem dX10_laws_47 : decode cX10_laws 47 = .ok (.iload_n 1, 1) := by decide +kernel
theorem dX10_laws_48 : decode cX10_laws 48 = .ok (.iload_n 2, 1) := by decide +kernel
theorem dX10_laws_49 : decode cX10_laws 49 = .ok (.aload_n 0, 1) := by decide +kernel
theorem dX10_laws_50 : decode cX10_laws 50 = .ok (.invokevirtual 243, 3) := by decide +kernel
theorem dX10_laws_53 : decode cX10_laws 53 = .ok (.invokevirtual 301, 3) := by decide +kernel
theorem dX10_laws_56 : decode cX10_laws 56 = .ok (.iconst (-1), 1) := by decide +kernel
theorem dX10_laws_57 : decode cX10_laws 57 = .ok (.if_icmp .ne 10, 3) := by decide +kernel
theorem dX10_laws_60 : decode cX10_laws 60 = .ok (.iconst 1, 1) := by decide +kernel
theorem dX10_laws_61 : decode cX10_laws 61 = .ok (.iload 6, 2) := by decide +kernel
theorem dX10_laws_63 : decode cX10_laws 63 = .ok (.ishl, 1) := by decide +kernel
theorem dX10_laws_64 : decode cX10_laws 64 = .ok (.goto 4, 3) := by decide +kernel
theorem dX10_laws_67 : decode cX10_laws 67 = .ok (.iconst 0, 1) := by decide +kernel
theorem dX10_laws_68 : decode cX10_laws 68 = .ok (.ior, 1) := by decide +kernel
theorem dX10_laws_69 : decode cX10_laws 69 = .ok (.istore 5, 2) := by decide +kernel
theorem dX10_laws_71 : decode cX10_laws 71 = .ok (.iinc 6 1, 3) := by decide +kernel
theorem dX10_laws_74 : decode cX10_laws 74 = .ok (.goto (-49), 3) := by decide +kernel
theorem dX10_laws_77 : decode cX10_laws 77 = .ok (.aload_n 0, 1) := by decide +kernel
theorem dX10_laws_78 : decode cX10_laws 78 = .ok (.iload 4, 2) := by decide +kernel
theorem dX10_laws_80 : decode cX10_laws 80 = .ok (.putfield 123, 3) := by decide +kernel
theorem dX10_laws_83 : decode cX10_laws 83 = .ok (.iload 5, 2) := by decide +kernel
theorem dX10_laws_85 : decode cX10_laws 85 = .ok (.ireturn, 1) := by decide +kernel
theorem dX10_gone_0 : decode cX10_gone 0 = .ok (.aload_n 0, 1) := by decide +kernel
theorem dX10_gone_1 : decode cX10_gone 1 = .ok (.iload_n 1, 1) := by decide +kernel
theorem dX10_gone_2 : decode cX10_gone 2 = .ok (.iload_n 2, 1) := by decide +kernel
theorem dX10_gone_3 : decode cX10_gone 3 = .ok (.invokevirtual 298, 3) := by decide +kernel
theorem dX10_gone_6 : decode cX10_gone 6 = .ok (.ifCond .eq 5, 3) := by decide +kernel
theorem dX10_gone_9 : decode cX10_gone 9 = .ok (.iconst 0, 1) := by decide +kernel
theorem dX10_gone_10 : decode cX10_gone 10 = .ok (.ireturn, 1) := by decide +kernel
theorem dX10_gone_11 : decode cX10_gone 11 = .ok (.aload_n 0, 1) := by decide +kernel
theorem dX10_gone_12 : decode cX10_gone 12 = .ok (.invokevirtual 240, 3) := by decide +kernel
theorem dX10_gone_15 : decode cX10_gone 15 = .ok (.iconst 0, 1) := by decide +kernel
theorem dX10_gone_16 : decode cX10_gone 16 = .ok (.istore_n 3, 1) := by decide +kernel
theorem dX10_gone_17 : decode cX10_gone 17 = .ok (.iconst 0, 1) := by decide +kernel
theorem dX10_gone_18 : decode cX10_gone 18 = .ok (.istore 4, 2) := by decide +kernel
theorem dX10_gone_20 : decode cX10_gone 20 = .ok (.iload 4, 2) := by decide +kernel
theorem dX10_gone_22 : decode cX10_gone 22 = .ok (.aload_n 0, 1) := by decide +kernel
theorem dX10_gone_23 : decode cX10_gone 23 = .ok (.invokevirtual 243, 3) := by decide +kernel
theorem dX10_gone_26 : decode cX10_gone 26 = .ok (.if_icmp .gt 39, 3) := by decide +kernel
theorem dX10_gone_29 : decode cX10_gone 29 = .ok (.iload_n 3, 1) := by decide +kernel
theorem dX10_gone_30 : decode cX10_gone 30 = .ok (.aload_n 0, 1) := by decide +kernel
theorem dX10_gone_31 : decode cX10_gone 31 = .ok (.iload_n 1, 1) := by decide +kernel
theorem dX10_gone_32 : decode cX10_gone 32 = .ok (.iload_n 2, 1) := by decide +kernel
theorem dX10_gone_33 : decode cX10_gone 33 = .ok (.aload_n 0, 1) := by decide +kernel
theorem dX10_gone_34 : decode cX10_gone 34 = .ok (.invokevirtual 243, 3) := by decide +kernel
theorem dX10_gone_37 : decode cX10_gone 37 = .ok (.iload 4, 2) := by decide +kernel
theorem dX10_gone_39 : decode cX10_gone 39 = .ok (.iconst (-1), 1) := by decide +kernel
theorem dX10_gone_40 : decode cX10_gone 40 = .ok (.ixor, 1) := by decide +kernel
theorem dX10_gone_41 : decode cX10_gone 41 = .ok (.iand, 1) := by decide +kernel
theorem dX10_gone_42 : decode cX10_gone 42 = .ok (.invokevirtual 301, 3) := by decide +kernel
theorem dX10_gone_45 : decode cX10_gone 45 = .ok (.iconst (-1), 1) := by decide +kernel
theorem dX10_gone_46 : decode cX10_gone 46 = .ok (.if_icmp .ne 10, 3) := by decide +kernel
theorem dX10_gone_49 : decode cX10_gone 49 = .ok (.iconst 1, 1) := by decide +kernel
theorem dX10_gone_50 : decode cX10_gone 50 = .ok (.iload 4, 2) := by decide +kernel
theorem dX10_gone_52 : decode cX10_gone 52 = .ok (.ishl, 1) := by decide +kernel
theorem dX10_gone_53 : decode cX10_gone 53 = .ok (.goto 4, 3) := by decide +kernel
theorem dX10_gone_56 : decode cX10_gone 56 = .ok (.iconst 0, 1) := by decide +kernel
theorem dX10_gone_57 : decode cX10_gone 57 = .ok (.ior, 1) := by decide +kernel
theorem dX10_gone_58 : decode cX10_gone 58 = .ok (.istore_n 3, 1) := by decide +kernel
theorem dX10_gone_59 : decode cX10_gone 59 = .ok (.iinc 4 1, 3) := by decide +kernel
theorem dX10_gone_62 : decode cX10_gone 62 = .ok (.goto (-42), 3) := by decide +kernel
theorem dX10_gone_65 : decode cX10_gone 65 = .ok (.iload_n 3, 1) := by decide +kernel
theorem dX10_gone_66 : decode cX10_gone 66 = .ok (.ireturn, 1) := by decide +kernel
theorem dX10_film_0 : decode cX10_film 0 = .ok (.iload_n 1, 1) := by decide +kernel
theorem dX10_film_1 : decode cX10_film 1 = .ok (.iconst 0, 1) := by decide +kernel
theorem dX10_film_2 : decode cX10_film 2 = .ok (.iconst 3, 1) := by decide +kernel
theorem dX10_film_3 : decode cX10_film 3 = .ok (.invokestatic 91, 3) := by decide +kernel
theorem dX10_film_6 : decode cX10_film 6 = .ok (.ifCond .ne 6, 3) := by decide +kernel
theorem dX10_film_9 : decode cX10_film 9 = .ok (.bipush (-2), 2) := by decide +kernel
theorem dX10_film_11 : decode cX10_film 11 = .ok (.ireturn, 1) := by decide +kernel
theorem dX10_film_12 : decode cX10_film 12 = .ok (.iload_n 2, 1) := by decide +kernel
theorem dX10_film_13 : decode cX10_film 13 = .ok (.invokestatic 110, 3) := by decide +kernel
theorem dX10_film_16 : decode cX10_film 16 = .ok (.ifCond .ne 6, 3) := by decide +kernel
theorem dX10_film_19 : decode cX10_film 19 = .ok (.bipush (-5), 2) := by decide +kernel
theorem dX10_film_21 : decode cX10_film 21 = .ok (.ireturn, 1) := by decide +kernel
theorem dX10_film_22 : decode cX10_film 22 = .ok (.aload_n 0, 1) := by decide +kernel
theorem dX10_film_23 : decode cX10_film 23 = .ok (.invokevirtual 240, 3) := by decide +kernel
theorem dX10_film_26 : decode cX10_film 26 = .ok (.aload_n 0, 1) := by decide +kernel
theorem dX10_film_27 : decode cX10_film 27 = .ok (.iload_n 2, 1) := by decide +kernel
theorem dX10_film_28 : decode cX10_film 28 = .ok (.aload_n 0, 1) := by decide +kernel
theorem dX10_film_29 : decode cX10_film 29 = .ok (.invokevirtual 243, 3) := by decide +kernel
theorem dX10_film_32 : decode cX10_film 32 = .ok (.invokevirtual 249, 3) := by decide +kernel
theorem dX10_film_35 : decode cX10_film 35 = .ok (.istore_n 3, 1) := by decide +kernel
theorem dX10_film_36 : decode cX10_film 36 = .ok (.aload_n 0, 1) := by decide +kernel
theorem dX10_film_37 : decode cX10_film 37 = .ok (.getfield 50, 3) := by decide +kernel
theorem dX10_film_40 : decode cX10_film 40 = .ok (.iload_n 1, 1) := by decide +kernel
theorem dX10_film_41 : decode cX10_film 41 = .ok (.iconst 2, 1) := by decide +kernel
theorem dX10_film_42 : decode cX10_film 42 = .ok (.iastore, 1) := by decide +kernel
theorem dX10_film_43 : decode cX10_film 43 = .ok (.aload_n 0, 1) := by decide +kernel
theorem dX10_film_44 : decode cX10_film 44 = .ok (.getfield 53, 3) := by decide +kernel
theorem dX10_film_47 : decode cX10_film 47 = .ok (.iload_n 1, 1) := by decide +kernel
theorem dX10_film_48 : decode cX10_film 48 = .ok (.bipush 24, 2) := by decide +kernel
theorem dX10_film_50 : decode cX10_film 50 = .ok (.iastore, 1) := by decide +kernel
theorem dX10_film_51 : decode cX10_film 51 = .ok (.iconst 0, 1) := by decide +kernel
theorem dX10_film_52 : decode cX10_film 52 = .ok (.istore 4, 2) := by decide +kernel
theorem dX10_film_54 : decode cX10_film 54 = .ok (.iload 4, 2) := by decide +kernel
theorem dX10_film_56 : decode cX10_film 56 = .ok (.bipush 40, 2) := by decide +kernel
theorem dX10_film_58 : decode cX10_film 58 = .ok (.if_icmp .ge 40, 3) := by decide +kernel
theorem dX10_film_61 : decode cX10_film 61 = .ok (.aload_n 0, 1) := by decide +kernel
theorem dX10_film_62 : decode cX10_film 62 = .ok (.getfield 56, 3) := by decide +kernel
theorem dX10_film_65 : decode cX10_film 65 = .ok (.bipush 40, 2) := by decide +kernel
theorem dX10_film_67 : decode cX10_film 67 = .ok (.iload_n 1, 1) := by decide +kernel
theorem dX10_film_68 : decode cX10_film 68 = .ok (.imul, 1) := by decide +kernel
theorem dX10_film_69 : decode cX10_film 69 = .ok (.iload 4, 2) := by decide +kernel
theorem dX10_film_71 : decode cX10_film 71 = .ok (.iadd, 1) := by decide +kernel
theorem dX10_film_72 : decode cX10_film 72 = .ok (.iload 4, 2) := by decide +kernel
theorem dX10_film_74 : decode cX10_film 74 = .ok (.bipush 24, 2) := by decide +kernel
theorem dX10_film_76 : decode cX10_film 76 = .ok (.if_icmp .ge 14, 3) := by decide +kernel
theorem dX10_film_79 : decode cX10_film 79 = .ok (.iconst 1, 1) := by decide +kernel
theorem dX10_film_80 : decode cX10_film 80 = .ok (.iload_n 3, 1) := by decide +kernel
theorem dX10_film_81 : decode cX10_film 81 = .ok (.iload 4, 2) := by decide +kernel
theorem dX10_film_83 : decode cX10_film 83 = .ok (.ishr, 1) := by decide +kernel
theorem dX10_film_84 : decode cX10_film 84 = .ok (.iconst 1, 1) := by decide +kernel
theorem dX10_film_85 : decode cX10_film 85 = .ok (.iand, 1) := by decide +kernel
theorem dX10_film_86 : decode cX10_film 86 = .ok (.isub, 1) := by decide +kernel
theorem dX10_film_87 : decode cX10_film 87 = .ok (.goto 4, 3) := by decide +kernel
theorem dX10_film_90 : decode cX10_film 90 = .ok (.iconst 0, 1) := by decide +kernel
theorem dX10_film_91 : decode cX10_film 91 = .ok (.iastore, 1) := by decide +kernel
theorem dX10_film_92 : decode cX10_film 92 = .ok (.iinc 4 1, 3) := by decide +kernel
theorem dX10_film_95 : decode cX10_film 95 = .ok (.goto (-41), 3) := by decide +kernel
theorem dX10_film_98 : decode cX10_film 98 = .ok (.bipush 24, 2) := by decide +kernel
theorem dX10_film_100 : decode cX10_film 100 = .ok (.ireturn, 1) := by decide +kernel
theorem dX10_worstBy_0 : decode cX10_worstBy 0 = .ok (.iload_n 1, 1) := by decide +kernel
theorem dX10_worstBy_1 : decode cX10_worstBy 1 = .ok (.i2l, 1) := by decide +kernel
theorem dX10_worstBy_2 : decode cX10_worstBy 2 = .ok (.lconst 1, 1) := by decide +kernel
theorem dX10_worstBy_3 : decode cX10_worstBy 3 = .ok (.ladd, 1) := by decide +kernel
theorem dX10_worstBy_4 : decode cX10_worstBy 4 = .ok (.lstore_n 2, 1) := by decide +kernel
theorem dX10_worstBy_5 : decode cX10_worstBy 5 = .ok (.iconst 0, 1) := by decide +kernel
theorem dX10_worstBy_6 : decode cX10_worstBy 6 = .ok (.istore 4, 2) := by decide +kernel
theorem dX10_worstBy_8 : decode cX10_worstBy 8 = .ok (.iload 4, 2) := by decide +kernel
theorem dX10_worstBy_10 : decode cX10_worstBy 10 = .ok (.aload_n 0, 1) := by decide +kernel
theorem dX10_worstBy_11 : decode cX10_worstBy 11 = .ok (.getfield 97, 3) := by decide +kernel
theorem dX10_worstBy_14 : decode cX10_worstBy 14 = .ok (.if_icmp .ge 46, 3) := by decide +kernel
theorem dX10_worstBy_17 : decode cX10_worstBy 17 = .ok (.aload_n 0, 1) := by decide +kernel
theorem dX10_worstBy_18 : decode cX10_worstBy 18 = .ok (.getfield 80, 3) := by decide +kernel
theorem dX10_worstBy_21 : decode cX10_worstBy 21 = .ok (.iload 4, 2) := by decide +kernel
theorem dX10_worstBy_23 : decode cX10_worstBy 23 = .ok (.aload_n 0, 1) := by decide +kernel
theorem dX10_worstBy_24 : decode cX10_worstBy 24 = .ok (.getfield 29, 3) := by decide +kernel
theorem dX10_worstBy_27 : decode cX10_worstBy 27 = .ok (.iload 4, 2) := by decide +kernel
theorem dX10_worstBy_29 : decode cX10_worstBy 29 = .ok (.iaload, 1) := by decide +kernel
theorem dX10_worstBy_30 : decode cX10_worstBy 30 = .ok (.iastore, 1) := by decide +kernel
theorem dX10_worstBy_31 : decode cX10_worstBy 31 = .ok (.lload_n 2, 1) := by decide +kernel
theorem dX10_worstBy_32 : decode cX10_worstBy 32 = .ok (.ldc2_w 304, 3) := by decide +kernel
theorem dX10_worstBy_35 : decode cX10_worstBy 35 = .ok (.lmul, 1) := by decide +kernel
theorem dX10_worstBy_36 : decode cX10_worstBy 36 = .ok (.ldc2_w 306, 3) := by decide +kernel
theorem dX10_worstBy_39 : decode cX10_worstBy 39 = .ok (.lrem, 1) := by decide +kernel
theorem dX10_worstBy_40 : decode cX10_worstBy 40 = .ok (.lstore_n 2, 1) := by decide +kernel
theorem dX10_worstBy_41 : decode cX10_worstBy 41 = .ok (.aload_n 0, 1) := by decide +kernel
theorem dX10_worstBy_42 : decode cX10_worstBy 42 = .ok (.getfield 29, 3) := by decide +kernel
theorem dX10_worstBy_45 : decode cX10_worstBy 45 = .ok (.iload 4, 2) := by decide +kernel
theorem dX10_worstBy_47 : decode cX10_worstBy 47 = .ok (.lload_n 2, 1) := by decide +kernel
theorem dX10_worstBy_48 : decode cX10_worstBy 48 = .ok (.ldc2_w 308, 3) := by decide +kernel
theorem dX10_worstBy_51 : decode cX10_worstBy 51 = .ok (.lrem, 1) := by decide +kernel
theorem dX10_worstBy_52 : decode cX10_worstBy 52 = .ok (.l2i, 1) := by decide +kernel
theorem dX10_worstBy_53 : decode cX10_worstBy 53 = .ok (.iastore, 1) := by decide +kernel
theorem dX10_worstBy_54 : decode cX10_worstBy 54 = .ok (.iinc 4 1, 3) := by decide +kernel
theorem dX10_worstBy_57 : decode cX10_worstBy 57 = .ok (.goto (-49), 3) := by decide +kernel
theorem dX10_worstBy_60 : decode cX10_worstBy 60 = .ok (.aload_n 0, 1) := by decide +kernel
theorem dX10_worstBy_61 : decode cX10_worstBy 61 = .ok (.invokevirtual 240, 3) := by decide +kernel
theorem dX10_worstBy_64 : decode cX10_worstBy 64 = .ok (.aload_n 0, 1) := by decide +kernel
theorem dX10_worstBy_65 : decode cX10_worstBy 65 = .ok (.invokevirtual 267, 3) := by decide +kernel
theorem dX10_worstBy_68 : decode cX10_worstBy 68 = .ok (.iconst 0, 1) := by decide +kernel
theorem dX10_worstBy_69 : decode cX10_worstBy 69 = .ok (.istore 4, 2) := by decide +kernel
theorem dX10_worstBy_71 : decode cX10_worstBy 71 = .ok (.iload 4, 2) := by decide +kernel
theorem dX10_worstBy_73 : decode cX10_worstBy 73 = .ok (.aload_n 0, 1) := by decide +kernel
theorem dX10_worstBy_74 : decode cX10_worstBy 74 = .ok (.getfield 97, 3) := by decide +kernel
theorem dX10_worstBy_77 : decode cX10_worstBy 77 = .ok (.if_icmp .ge 23, 3) := by decide +kernel
theorem dX10_worstBy_80 : decode cX10_worstBy 80 = .ok (.aload_n 0, 1) := by decide +kernel
theorem dX10_worstBy_81 : decode cX10_worstBy 81 = .ok (.getfield 29, 3) := by decide +kernel
theorem dX10_worstBy_84 : decode cX10_worstBy 84 = .ok (.iload 4, 2) := by decide +kernel
theorem dX10_worstBy_86 : decode cX10_worstBy 86 = .ok (.aload_n 0, 1) := by decide +kernel
theorem dX10_worstBy_87 : decode cX10_worstBy 87 = .ok (.getfield 80, 3) := by decide +kernel
theorem dX10_worstBy_90 : decode cX10_worstBy 90 = .ok (.iload 4, 2) := by decide +kernel
theorem dX10_worstBy_92 : decode cX10_worstBy 92 = .ok (.iaload, 1) := by decide +kernel
theorem dX10_worstBy_93 : decode cX10_worstBy 93 = .ok (.iastore, 1) := by decide +kernel
theorem dX10_worstBy_94 : decode cX10_worstBy 94 = .ok (.iinc 4 1, 3) := by decide +kernel
theorem dX10_worstBy_97 : decode cX10_worstBy 97 = .ok (.goto (-26), 3) := by decide +kernel
theorem dX10_worstBy_100 : decode cX10_worstBy 100 = .ok (.aload_n 0, 1) := by decide +kernel
theorem dX10_worstBy_101 : decode cX10_worstBy 101 = .ok (.getfield 261, 3) := by decide +kernel
theorem dX10_worstBy_104 : decode cX10_worstBy 104 = .ok (.ireturn, 1) := by decide +kernel
theorem dX10_isSeed_0 : decode cX10_isSeed 0 = .ok (.iload_n 0, 1) := by decide +kernel
theorem dX10_isSeed_1 : decode cX10_isSeed 1 = .ok (.iconst 0, 1) := by decide +kernel
theorem dX10_isSeed_2 : decode cX10_isSeed 2 = .ok (.ldc_w 310, 3) := by decide +kernel
theorem dX10_isSeed_5 : decode cX10_isSeed 5 = .ok (.invokestatic 91, 3) := by decide +kernel
theorem dX10_isSeed_8 : decode cX10_isSeed 8 = .ok (.ireturn, 1) := by decide +kernel
theorem dX10_drawn_0 : decode cX10_drawn 0 = .ok (.iload_n 1, 1) := by decide +kernel
theorem dX10_drawn_1 : decode cX10_drawn 1 = .ok (.invokestatic 311, 3) := by decide +kernel
theorem dX10_drawn_4 : decode cX10_drawn 4 = .ok (.ifCond .eq 11, 3) := by decide +kernel
theorem dX10_drawn_7 : decode cX10_drawn 7 = .ok (.aload_n 0, 1) := by decide +kernel
theorem dX10_drawn_8 : decode cX10_drawn 8 = .ok (.iload_n 1, 1) := by decide +kernel
theorem dX10_drawn_9 : decode cX10_drawn 9 = .ok (.invokevirtual 314, 3) := by decide +kernel
theorem dX10_drawn_12 : decode cX10_drawn 12 = .ok (.goto 5, 3) := by decide +kernel
theorem dX10_drawn_15 : decode cX10_drawn 15 = .ok (.bipush (-2), 2) := by decide +kernel
theorem dX10_drawn_17 : decode cX10_drawn 17 = .ok (.ireturn, 1) := by decide +kernel
theorem dX10_lowest_0 : decode cX10_lowest 0 = .ok (.lload_n 0, 1) := by decide +kernel
theorem dX10_lowest_1 : decode cX10_lowest 1 = .ok (.lconst 0, 1) := by decide +kernel
theorem dX10_lowest_2 : decode cX10_lowest 2 = .ok (.lcmp, 1) := by decide +kernel
theorem dX10_lowest_3 : decode cX10_lowest 3 = .ok (.ifCond .ne 7, 3) := by decide +kernel
theorem dX10_lowest_6 : decode cX10_lowest 6 = .ok (.iload 4, 2) := by decide +kernel
theorem dX10_lowest_8 : decode cX10_lowest 8 = .ok (.i2l, 1) := by decide +kernel
theorem dX10_lowest_9 : decode cX10_lowest 9 = .ok (.lreturn, 1) := by decide +kernel
theorem dX10_lowest_10 : decode cX10_lowest 10 = .ok (.lload_n 0, 1) := by decide +kernel
theorem dX10_lowest_11 : decode cX10_lowest 11 = .ok (.lstore 5, 2) := by decide +kernel
theorem dX10_lowest_13 : decode cX10_lowest 13 = .ok (.lload_n 2, 1) := by decide +kernel
theorem dX10_lowest_14 : decode cX10_lowest 14 = .ok (.lstore 7, 2) := by decide +kernel
theorem dX10_lowest_16 : decode cX10_lowest 16 = .ok (.lload 7, 2) := by decide +kernel
theorem dX10_lowest_18 : decode cX10_lowest 18 = .ok (.lconst 0, 1) := by decide +kernel
theorem dX10_lowest_19 : decode cX10_lowest 19 = .ok (.lcmp, 1) := by decide +kernel
theorem dX10_lowest_20 : decode cX10_lowest 20 = .ok (.ifCond .eq 21, 3) := by decide +kernel
theorem dX10_lowest_23 : decode cX10_lowest 23 = .ok (.lload 5, 2) := by decide +kernel
theorem dX10_lowest_25 : decode cX10_lowest 25 = .ok (.lload 7, 2) := by decide +kernel
theorem dX10_lowest_27 : decode cX10_lowest 27 = .ok (.lrem, 1) := by decide +kernel
theorem dX10_lowest_28 : decode cX10_lowest 28 = .ok (.lstore 9, 2) := by decide +kernel
theorem dX10_lowest_30 : decode cX10_lowest 30 = .ok (.lload 7, 2) := by decide +kernel
theorem dX10_lowest_32 : decode cX10_lowest 32 = .ok (.lstore 5, 2) := by decide +kernel
theorem dX10_lowest_34 : decode cX10_lowest 34 = .ok (.lload 9, 2) := by decide +kernel
theorem dX10_lowest_36 : decode cX10_lowest 36 = .ok (.lstore 7, 2) := by decide +kernel
theorem dX10_lowest_38 : decode cX10_lowest 38 = .ok (.goto (-22), 3) := by decide +kernel
theorem dX10_lowest_41 : decode cX10_lowest 41 = .ok (.iload 4, 2) := by decide +kernel
theorem dX10_lowest_43 : decode cX10_lowest 43 = .ok (.ifCond .ne 7, 3) := by decide +kernel
theorem dX10_lowest_46 : decode cX10_lowest 46 = .ok (.lload_n 0, 1) := by decide +kernel
theorem dX10_lowest_47 : decode cX10_lowest 47 = .ok (.goto 4, 3) := by decide +kernel
theorem dX10_lowest_50 : decode cX10_lowest 50 = .ok (.lload_n 2, 1) := by decide +kernel
theorem dX10_lowest_51 : decode cX10_lowest 51 = .ok (.lload 5, 2) := by decide +kernel
theorem dX10_lowest_53 : decode cX10_lowest 53 = .ok (.ldiv, 1) := by decide +kernel
theorem dX10_lowest_54 : decode cX10_lowest 54 = .ok (.lreturn, 1) := by decide +kernel
theorem dX10_mean_0 : decode cX10_mean 0 = .ok (.iload_n 1, 1) := by decide +kernel
theorem dX10_mean_1 : decode cX10_mean 1 = .ok (.invokestatic 311, 3) := by decide +kernel
theorem dX10_mean_4 : decode cX10_mean 4 = .ok (.ifCond .eq 22, 3) := by decide +kernel
theorem dX10_mean_7 : decode cX10_mean 7 = .ok (.iload_n 2, 1) := by decide +kernel
theorem dX10_mean_8 : decode cX10_mean 8 = .ok (.iconst 1, 1) := by decide +kernel
theorem dX10_mean_9 : decode cX10_mean 9 = .ok (.bipush 12, 2) := by decide +kernel
theorem dX10_mean_11 : decode cX10_mean 11 = .ok (.invokestatic 91, 3) := by decide +kernel
theorem dX10_mean_14 : decode cX10_mean 14 = .ok (.ifCond .eq 12, 3) := by decide +kernel
theorem dX10_mean_17 : decode cX10_mean 17 = .ok (.iload_n 3, 1) := by decide +kernel
theorem dX10_mean_18 : decode cX10_mean 18 = .ok (.iconst 0, 1) := by decide +kernel
theorem dX10_mean_19 : decode cX10_mean 19 = .ok (.iconst 1, 1) := by decide +kernel
theorem dX10_mean_20 : decode cX10_mean 20 = .ok (.invokestatic 91, 3) := by decide +kernel
theorem dX10_mean_23 : decode cX10_mean 23 = .ok (.ifCond .ne 7, 3) := by decide +kernel
theorem dX10_mean_26 : decode cX10_mean 26 = .ok (.ldc2_w 108, 3) := by decide +kernel
theorem dX10_mean_29 : decode cX10_mean 29 = .ok (.lreturn, 1) := by decide +kernel
theorem dX10_mean_30 : decode cX10_mean 30 = .ok (.lconst 0, 1) := by decide +kernel
theorem dX10_mean_31 : decode cX10_mean 31 = .ok (.lstore 4, 2) := by decide +kernel
theorem dX10_mean_33 : decode cX10_mean 33 = .ok (.iconst 0, 1) := by decide +kernel
theorem dX10_mean_34 : decode cX10_mean 34 = .ok (.istore 6, 2) := by decide +kernel
theorem dX10_mean_36 : decode cX10_mean 36 = .ok (.iload 6, 2) := by decide +kernel
theorem dX10_mean_38 : decode cX10_mean 38 = .ok (.iload_n 2, 1) := by decide +kernel
theorem dX10_mean_39 : decode cX10_mean 39 = .ok (.if_icmp .ge 23, 3) := by decide +kernel
theorem dX10_mean_42 : decode cX10_mean 42 = .ok (.lload 4, 2) := by decide +kernel
theorem dX10_mean_44 : decode cX10_mean 44 = .ok (.aload_n 0, 1) := by decide +kernel
theorem dX10_mean_45 : decode cX10_mean 45 = .ok (.iload_n 1, 1) := by decide +kernel
theorem dX10_mean_46 : decode cX10_mean 46 = .ok (.iload 6, 2) := by decide +kernel
theorem dX10_mean_48 : decode cX10_mean 48 = .ok (.iadd, 1) := by decide +kernel
theorem dX10_mean_49 : decode cX10_mean 49 = .ok (.invokevirtual 314, 3) := by decide +kernel
theorem dX10_mean_52 : decode cX10_mean 52 = .ok (.i2l, 1) := by decide +kernel
theorem dX10_mean_53 : decode cX10_mean 53 = .ok (.ladd, 1) := by decide +kernel
theorem dX10_mean_54 : decode cX10_mean 54 = .ok (.lstore 4, 2) := by decide +kernel
theorem dX10_mean_56 : decode cX10_mean 56 = .ok (.iinc 6 1, 3) := by decide +kernel
theorem dX10_mean_59 : decode cX10_mean 59 = .ok (.goto (-23), 3) := by decide +kernel
theorem dX10_mean_62 : decode cX10_mean 62 = .ok (.lload 4, 2) := by decide +kernel
theorem dX10_mean_64 : decode cX10_mean 64 = .ok (.iload_n 2, 1) := by decide +kernel
theorem dX10_mean_65 : decode cX10_mean 65 = .ok (.i2l, 1) := by decide +kernel
theorem dX10_mean_66 : decode cX10_mean 66 = .ok (.iload_n 3, 1) := by decide +kernel
theorem dX10_mean_67 : decode cX10_mean 67 = .ok (.invokestatic 317, 3) := by decide +kernel
theorem dX10_mean_70 : decode cX10_mean 70 = .ok (.lreturn, 1) := by decide +kernel
theorem dX10_image_0 : decode cX10_image 0 = .ok (.aload_n 0, 1) := by decide +kernel
theorem dX10_image_1 : decode cX10_image 1 = .ok (.iconst 1, 1) := by decide +kernel
theorem dX10_image_2 : decode cX10_image 2 = .ok (.putfield 321, 3) := by decide +kernel
theorem dX10_image_5 : decode cX10_image 5 = .ok (.aload_n 0, 1) := by decide +kernel
theorem dX10_image_6 : decode cX10_image 6 = .ok (.aload_n 0, 1) := by decide +kernel
theorem dX10_image_7 : decode cX10_image 7 = .ok (.getfield 97, 3) := by decide +kernel
theorem dX10_image_10 : decode cX10_image 10 = .ok (.putfield 325, 3) := by decide +kernel
theorem dX10_image_13 : decode cX10_image 13 = .ok (.aload_n 0, 1) := by decide +kernel
theorem dX10_image_14 : decode cX10_image 14 = .ok (.aload_n 0, 1) := by decide +kernel
theorem dX10_image_15 : decode cX10_image 15 = .ok (.getfield 123, 3) := by decide +kernel
theorem dX10_image_18 : decode cX10_image 18 = .ok (.putfield 328, 3) := by decide +kernel
theorem dX10_image_21 : decode cX10_image 21 = .ok (.iconst 0, 1) := by decide +kernel
theorem dX10_image_22 : decode cX10_image 22 = .ok (.istore_n 1, 1) := by decide +kernel
theorem dX10_image_23 : decode cX10_image 23 = .ok (.iload_n 1, 1) := by decide +kernel
theorem dX10_image_24 : decode cX10_image 24 = .ok (.iconst 3, 1) := by decide +kernel
theorem dX10_image_25 : decode cX10_image 25 = .ok (.if_icmp .ge 21, 3) := by decide +kernel
theorem dX10_image_28 : decode cX10_image 28 = .ok (.aload_n 0, 1) := by decide +kernel
theorem dX10_image_29 : decode cX10_image 29 = .ok (.getfield 41, 3) := by decide +kernel
theorem dX10_image_32 : decode cX10_image 32 = .ok (.iload_n 1, 1) := by decide +kernel
theorem dX10_image_33 : decode cX10_image 33 = .ok (.aload_n 0, 1) := by decide +kernel
theorem dX10_image_34 : decode cX10_image 34 = .ok (.getfield 7, 3) := by decide +kernel
theorem dX10_image_37 : decode cX10_image 37 = .ok (.iload_n 1, 1) := by decide +kernel
theorem dX10_image_38 : decode cX10_image 38 = .ok (.laload, 1) := by decide +kernel
theorem dX10_image_39 : decode cX10_image 39 = .ok (.lastore, 1) := by decide +kernel
theorem dX10_image_40 : decode cX10_image 40 = .ok (.iinc 1 1, 3) := by decide +kernel
theorem dX10_image_43 : decode cX10_image 43 = .ok (.goto (-20), 3) := by decide +kernel
theorem dX10_image_46 : decode cX10_image 46 = .ok (.iconst 0, 1) := by decide +kernel
theorem dX10_image_47 : decode cX10_image 47 = .ok (.istore_n 1, 1) := by decide +kernel
theorem dX10_image_48 : decode cX10_image 48 = .ok (.iload_n 1, 1) := by decide +kernel
theorem dX10_image_49 : decode cX10_image 49 = .ok (.iconst 5, 1) := by decide +kernel
theorem dX10_image_50 : decode cX10_image 50 = .ok (.if_icmp .ge 33, 3) := by decide +kernel
theorem dX10_image_53 : decode cX10_image 53 = .ok (.aload_n 0, 1) := by decide +kernel
theorem dX10_image_54 : decode cX10_image 54 = .ok (.getfield 44, 3) := by decide +kernel
theorem dX10_image_57 : decode cX10_image 57 = .ok (.iload_n 1, 1) := by decide +kernel
theorem dX10_image_58 : decode cX10_image 58 = .ok (.aload_n 0, 1) := by decide +kernel
theorem dX10_image_59 : decode cX10_image 59 = .ok (.getfield 29, 3) := by decide +kernel
theorem dX10_image_62 : decode cX10_image 62 = .ok (.iload_n 1, 1) := by decide +kernel
theorem dX10_image_63 : decode cX10_image 63 = .ok (.iaload, 1) := by decide +kernel
theorem dX10_image_64 : decode cX10_image 64 = .ok (.iastore, 1) := by decide +kernel
theorem dX10_image_65 : decode cX10_image 65 = .ok (.aload_n 0, 1) := by decide +kernel
theorem dX10_image_66 : decode cX10_image 66 = .ok (.getfield 47, 3) := by decide +kernel
theorem dX10_image_69 : decode cX10_image 69 = .ok (.iload_n 1, 1) := by decide +kernel
theorem dX10_image_70 : decode cX10_image 70 = .ok (.aload_n 0, 1) := by decide +kernel
theorem dX10_image_71 : decode cX10_image 71 = .ok (.getfield 23, 3) := by decide +kernel
theorem dX10_image_74 : decode cX10_image 74 = .ok (.iload_n 1, 1) := by decide +kernel
theorem dX10_image_75 : decode cX10_image 75 = .ok (.iaload, 1) := by decide +kernel
theorem dX10_image_76 : decode cX10_image 76 = .ok (.iastore, 1) := by decide +kernel
theorem dX10_image_77 : decode cX10_image 77 = .ok (.iinc 1 1, 3) := by decide +kernel
theorem dX10_image_80 : decode cX10_image 80 = .ok (.goto (-32), 3) := by decide +kernel
theorem dX10_image_83 : decode cX10_image 83 = .ok (.aload_n 0, 1) := by decide +kernel
theorem dX10_image_84 : decode cX10_image 84 = .ok (.getfield 97, 3) := by decide +kernel
theorem dX10_image_87 : decode cX10_image 87 = .ok (.ireturn, 1) := by decide +kernel
theorem dX10_back_0 : decode cX10_back 0 = .ok (.aload_n 0, 1) := by decide +kernel
theorem dX10_back_1 : decode cX10_back 1 = .ok (.getfield 321, 3) := by decide +kernel
theorem dX10_back_4 : decode cX10_back 4 = .ok (.ifCond .ne 6, 3) := by decide +kernel
theorem dX10_back_7 : decode cX10_back 7 = .ok (.bipush (-3), 2) := by decide +kernel
theorem dX10_back_9 : decode cX10_back 9 = .ok (.ireturn, 1) := by decide +kernel
theorem dX10_back_10 : decode cX10_back 10 = .ok (.aload_n 0, 1) := by decide +kernel
theorem dX10_back_11 : decode cX10_back 11 = .ok (.aload_n 0, 1) := by decide +kernel
theorem dX10_back_12 : decode cX10_back 12 = .ok (.getfield 325, 3) := by decide +kernel
theorem dX10_back_15 : decode cX10_back 15 = .ok (.putfield 97, 3) := by decide +kernel
theorem dX10_back_18 : decode cX10_back 18 = .ok (.aload_n 0, 1) := by decide +kernel
theorem dX10_back_19 : decode cX10_back 19 = .ok (.aload_n 0, 1) := by decide +kernel
theorem dX10_back_20 : decode cX10_back 20 = .ok (.getfield 328, 3) := by decide +kernel
theorem dX10_back_23 : decode cX10_back 23 = .ok (.putfield 123, 3) := by decide +kernel
theorem dX10_back_26 : decode cX10_back 26 = .ok (.iconst 0, 1) := by decide +kernel
theorem dX10_back_27 : decode cX10_back 27 = .ok (.istore_n 1, 1) := by decide +kernel
theorem dX10_back_28 : decode cX10_back 28 = .ok (.iload_n 1, 1) := by decide +kernel
theorem dX10_back_29 : decode cX10_back 29 = .ok (.iconst 3, 1) := by decide +kernel
theorem dX10_back_30 : decode cX10_back 30 = .ok (.if_icmp .ge 21, 3) := by decide +kernel
theorem dX10_back_33 : decode cX10_back 33 = .ok (.aload_n 0, 1) := by decide +kernel
theorem dX10_back_34 : decode cX10_back 34 = .ok (.getfield 7, 3) := by decide +kernel
theorem dX10_back_37 : decode cX10_back 37 = .ok (.iload_n 1, 1) := by decide +kernel
theorem dX10_back_38 : decode cX10_back 38 = .ok (.aload_n 0, 1) := by decide +kernel
theorem dX10_back_39 : decode cX10_back 39 = .ok (.getfield 41, 3) := by decide +kernel
theorem dX10_back_42 : decode cX10_back 42 = .ok (.iload_n 1, 1) := by decide +kernel
theorem dX10_back_43 : decode cX10_back 43 = .ok (.laload, 1) := by decide +kernel
theorem dX10_back_44 : decode cX10_back 44 = .ok (.lastore, 1) := by decide +kernel
theorem dX10_back_45 : decode cX10_back 45 = .ok (.iinc 1 1, 3) := by decide +kernel
theorem dX10_back_48 : decode cX10_back 48 = .ok (.goto (-20), 3) := by decide +kernel
theorem dX10_back_51 : decode cX10_back 51 = .ok (.iconst 0, 1) := by decide +kernel
theorem dX10_back_52 : decode cX10_back 52 = .ok (.istore_n 1, 1) := by decide +kernel
theorem dX10_back_53 : decode cX10_back 53 = .ok (.iload_n 1, 1) := by decide +kernel
theorem dX10_back_54 : decode cX10_back 54 = .ok (.iconst 5, 1) := by decide +kernel
theorem dX10_back_55 : decode cX10_back 55 = .ok (.if_icmp .ge 33, 3) := by decide +kernel
theorem dX10_back_58 : decode cX10_back 58 = .ok (.aload_n 0, 1) := by decide +kernel
theorem dX10_back_59 : decode cX10_back 59 = .ok (.getfield 29, 3) := by decide +kernel
theorem dX10_back_62 : decode cX10_back 62 = .ok (.iload_n 1, 1) := by decide +kernel
theorem dX10_back_63 : decode cX10_back 63 = .ok (.aload_n 0, 1) := by decide +kernel
theorem dX10_back_64 : decode cX10_back 64 = .ok (.getfield 44, 3) := by decide +kernel
theorem dX10_back_67 : decode cX10_back 67 = .ok (.iload_n 1, 1) := by decide +kernel
theorem dX10_back_68 : decode cX10_back 68 = .ok (.iaload, 1) := by decide +kernel
theorem dX10_back_69 : decode cX10_back 69 = .ok (.iastore, 1) := by decide +kernel
theorem dX10_back_70 : decode cX10_back 70 = .ok (.aload_n 0, 1) := by decide +kernel
theorem dX10_back_71 : decode cX10_back 71 = .ok (.getfield 23, 3) := by decide +kernel
theorem dX10_back_74 : decode cX10_back 74 = .ok (.iload_n 1, 1) := by decide +kernel
theorem dX10_back_75 : decode cX10_back 75 = .ok (.aload_n 0, 1) := by decide +kernel
theorem dX10_back_76 : decode cX10_back 76 = .ok (.getfield 47, 3) := by decide +kernel
theorem dX10_back_79 : decode cX10_back 79 = .ok (.iload_n 1, 1) := by decide +kernel
theorem dX10_back_80 : decode cX10_back 80 = .ok (.iaload, 1) := by decide +kernel
theorem dX10_back_81 : decode cX10_back 81 = .ok (.iastore, 1) := by decide +kernel
theorem dX10_back_82 : decode cX10_back 82 = .ok (.iinc 1 1, 3) := by decide +kernel
theorem dX10_back_85 : decode cX10_back 85 = .ok (.goto (-32), 3) := by decide +kernel
theorem dX10_back_88 : decode cX10_back 88 = .ok (.aload_n 0, 1) := by decide +kernel
theorem dX10_back_89 : decode cX10_back 89 = .ok (.getfield 97, 3) := by decide +kernel
theorem dX10_back_92 : decode cX10_back 92 = .ok (.ireturn, 1) := by decide +kernel
theorem dX10_sheet_0 : decode cX10_sheet 0 = .ok (.iload_n 1, 1) := by decide +kernel
theorem dX10_sheet_1 : decode cX10_sheet 1 = .ok (.iconst 0, 1) := by decide +kernel
theorem dX10_sheet_2 : decode cX10_sheet 2 = .ok (.iconst 3, 1) := by decide +kernel
theorem dX10_sheet_3 : decode cX10_sheet 3 = .ok (.invokestatic 91, 3) := by decide +kernel
theorem dX10_sheet_6 : decode cX10_sheet 6 = .ok (.ifCond .eq 23, 3) := by decide +kernel
theorem dX10_sheet_9 : decode cX10_sheet 9 = .ok (.iload_n 2, 1) := by decide +kernel
theorem dX10_sheet_10 : decode cX10_sheet 10 = .ok (.iconst (-1), 1) := by decide +kernel
theorem dX10_sheet_11 : decode cX10_sheet 11 = .ok (.iconst 2, 1) := by decide +kernel
theorem dX10_sheet_12 : decode cX10_sheet 12 = .ok (.invokestatic 91, 3) := by decide +kernel
theorem dX10_sheet_15 : decode cX10_sheet 15 = .ok (.ifCond .eq 14, 3) := by decide +kernel
theorem dX10_sheet_18 : decode cX10_sheet 18 = .ok (.iload_n 2, 1) := by decide +kernel
theorem dX10_sheet_19 : decode cX10_sheet 19 = .ok (.iconst (-1), 1) := by decide +kernel
theorem dX10_sheet_20 : decode cX10_sheet 20 = .ok (.if_icmp .eq 12, 3) := by decide +kernel
theorem dX10_sheet_23 : decode cX10_sheet 23 = .ok (.iload_n 3, 1) := by decide +kernel
theorem dX10_sheet_24 : decode cX10_sheet 24 = .ok (.bipush 40, 2) := by decide +kernel
theorem dX10_sheet_26 : decode cX10_sheet 26 = .ok (.if_icmp .le 6, 3) := by decide +kernel
theorem dX10_sheet_29 : decode cX10_sheet 29 = .ok (.bipush (-2), 2) := by decide +kernel
theorem dX10_sheet_31 : decode cX10_sheet 31 = .ok (.ireturn, 1) := by decide +kernel
theorem dX10_sheet_32 : decode cX10_sheet 32 = .ok (.iload_n 2, 1) := by decide +kernel
theorem dX10_sheet_33 : decode cX10_sheet 33 = .ok (.iconst (-1), 1) := by decide +kernel
theorem dX10_sheet_34 : decode cX10_sheet 34 = .ok (.if_icmp .eq 10, 3) := by decide +kernel
theorem dX10_sheet_37 : decode cX10_sheet 37 = .ok (.iload_n 3, 1) := by decide +kernel
theorem dX10_sheet_38 : decode cX10_sheet 38 = .ok (.ifCond .ge 6, 3) := by decide +kernel
theorem dX10_sheet_41 : decode cX10_sheet 41 = .ok (.bipush (-14), 2) := by decide +kernel
theorem dX10_sheet_43 : decode cX10_sheet 43 = .ok (.ireturn, 1) := by decide +kernel
theorem dX10_sheet_44 : decode cX10_sheet 44 = .ok (.aload_n 0, 1) := by decide +kernel
theorem dX10_sheet_45 : decode cX10_sheet 45 = .ok (.getfield 50, 3) := by decide +kernel
theorem dX10_sheet_48 : decode cX10_sheet 48 = .ok (.iload_n 1, 1) := by decide +kernel
theorem dX10_sheet_49 : decode cX10_sheet 49 = .ok (.iload_n 2, 1) := by decide +kernel
theorem dX10_sheet_50 : decode cX10_sheet 50 = .ok (.iastore, 1) := by decide +kernel
theorem dX10_sheet_51 : decode cX10_sheet 51 = .ok (.aload_n 0, 1) := by decide +kernel
theorem dX10_sheet_52 : decode cX10_sheet 52 = .ok (.getfield 53, 3) := by decide +kernel
theorem dX10_sheet_55 : decode cX10_sheet 55 = .ok (.iload_n 1, 1) := by decide +kernel
theorem dX10_sheet_56 : decode cX10_sheet 56 = .ok (.iload_n 2, 1) := by decide +kernel
theorem dX10_sheet_57 : decode cX10_sheet 57 = .ok (.iconst (-1), 1) := by decide +kernel
theorem dX10_sheet_58 : decode cX10_sheet 58 = .ok (.if_icmp .ne 7, 3) := by decide +kernel
theorem dX10_sheet_61 : decode cX10_sheet 61 = .ok (.iconst 0, 1) := by decide +kernel
theorem dX10_sheet_62 : decode cX10_sheet 62 = .ok (.goto 4, 3) := by decide +kernel
theorem dX10_sheet_65 : decode cX10_sheet 65 = .ok (.iload_n 3, 1) := by decide +kernel
theorem dX10_sheet_66 : decode cX10_sheet 66 = .ok (.iastore, 1) := by decide +kernel
theorem dX10_sheet_67 : decode cX10_sheet 67 = .ok (.iconst 0, 1) := by decide +kernel
theorem dX10_sheet_68 : decode cX10_sheet 68 = .ok (.istore 4, 2) := by decide +kernel
theorem dX10_sheet_70 : decode cX10_sheet 70 = .ok (.iload 4, 2) := by decide +kernel
theorem dX10_sheet_72 : decode cX10_sheet 72 = .ok (.bipush 40, 2) := by decide +kernel
theorem dX10_sheet_74 : decode cX10_sheet 74 = .ok (.if_icmp .ge 22, 3) := by decide +kernel
theorem dX10_sheet_77 : decode cX10_sheet 77 = .ok (.aload_n 0, 1) := by decide +kernel
theorem dX10_sheet_78 : decode cX10_sheet 78 = .ok (.getfield 56, 3) := by decide +kernel
theorem dX10_sheet_81 : decode cX10_sheet 81 = .ok (.bipush 40, 2) := by decide +kernel
theorem dX10_sheet_83 : decode cX10_sheet 83 = .ok (.iload_n 1, 1) := by decide +kernel
theorem dX10_sheet_84 : decode cX10_sheet 84 = .ok (.imul, 1) := by decide +kernel
theorem dX10_sheet_85 : decode cX10_sheet 85 = .ok (.iload 4, 2) := by decide +kernel
theorem dX10_sheet_87 : decode cX10_sheet 87 = .ok (.iadd, 1) := by decide +kernel
theorem dX10_sheet_88 : decode cX10_sheet 88 = .ok (.iconst 0, 1) := by decide +kernel
theorem dX10_sheet_89 : decode cX10_sheet 89 = .ok (.iastore, 1) := by decide +kernel
theorem dX10_sheet_90 : decode cX10_sheet 90 = .ok (.iinc 4 1, 3) := by decide +kernel
theorem dX10_sheet_93 : decode cX10_sheet 93 = .ok (.goto (-23), 3) := by decide +kernel
theorem dX10_sheet_96 : decode cX10_sheet 96 = .ok (.iconst 1, 1) := by decide +kernel
theorem dX10_sheet_97 : decode cX10_sheet 97 = .ok (.ireturn, 1) := by decide +kernel
theorem dX10_cell_0 : decode cX10_cell 0 = .ok (.iload_n 1, 1) := by decide +kernel
theorem dX10_cell_1 : decode cX10_cell 1 = .ok (.iconst 0, 1) := by decide +kernel
theorem dX10_cell_2 : decode cX10_cell 2 = .ok (.iconst 3, 1) := by decide +kernel
theorem dX10_cell_3 : decode cX10_cell 3 = .ok (.invokestatic 91, 3) := by decide +kernel
theorem dX10_cell_6 : decode cX10_cell 6 = .ok (.ifCond .ne 6, 3) := by decide +kernel
theorem dX10_cell_9 : decode cX10_cell 9 = .ok (.bipush (-2), 2) := by decide +kernel
theorem dX10_cell_11 : decode cX10_cell 11 = .ok (.ireturn, 1) := by decide +kernel
theorem dX10_cell_12 : decode cX10_cell 12 = .ok (.aload_n 0, 1) := by decide +kernel
theorem dX10_cell_13 : decode cX10_cell 13 = .ok (.getfield 50, 3) := by decide +kernel
theorem dX10_cell_16 : decode cX10_cell 16 = .ok (.iload_n 1, 1) := by decide +kernel
theorem dX10_cell_17 : decode cX10_cell 17 = .ok (.iaload, 1) := by decide +kernel
theorem dX10_cell_18 : decode cX10_cell 18 = .ok (.iconst (-1), 1) := by decide +kernel
theorem dX10_cell_19 : decode cX10_cell 19 = .ok (.if_icmp .ne 6, 3) := by decide +kernel
theorem dX10_cell_22 : decode cX10_cell 22 = .ok (.bipush (-11), 2) := by decide +kernel
theorem dX10_cell_24 : decode cX10_cell 24 = .ok (.ireturn, 1) := by decide +kernel
theorem dX10_cell_25 : decode cX10_cell 25 = .ok (.iload_n 2, 1) := by decide +kernel
theorem dX10_cell_26 : decode cX10_cell 26 = .ok (.iconst 0, 1) := by decide +kernel
theorem dX10_cell_27 : decode cX10_cell 27 = .ok (.aload_n 0, 1) := by decide +kernel
theorem dX10_cell_28 : decode cX10_cell 28 = .ok (.getfield 53, 3) := by decide +kernel
theorem dX10_cell_31 : decode cX10_cell 31 = .ok (.iload_n 1, 1) := by decide +kernel
theorem dX10_cell_32 : decode cX10_cell 32 = .ok (.iaload, 1) := by decide +kernel
theorem dX10_cell_33 : decode cX10_cell 33 = .ok (.iconst 1, 1) := by decide +kernel
theorem dX10_cell_34 : decode cX10_cell 34 = .ok (.isub, 1) := by decide +kernel
theorem dX10_cell_35 : decode cX10_cell 35 = .ok (.invokestatic 91, 3) := by decide +kernel
theorem dX10_cell_38 : decode cX10_cell 38 = .ok (.ifCond .ne 6, 3) := by decide +kernel
theorem dX10_cell_41 : decode cX10_cell 41 = .ok (.bipush (-12), 2) := by decide +kernel
theorem dX10_cell_43 : decode cX10_cell 43 = .ok (.ireturn, 1) := by decide +kernel
theorem dX10_cell_44 : decode cX10_cell 44 = .ok (.aload_n 0, 1) := by decide +kernel
theorem dX10_cell_45 : decode cX10_cell 45 = .ok (.getfield 56, 3) := by decide +kernel
theorem dX10_cell_48 : decode cX10_cell 48 = .ok (.bipush 40, 2) := by decide +kernel
theorem dX10_cell_50 : decode cX10_cell 50 = .ok (.iload_n 1, 1) := by decide +kernel
theorem dX10_cell_51 : decode cX10_cell 51 = .ok (.imul, 1) := by decide +kernel
theorem dX10_cell_52 : decode cX10_cell 52 = .ok (.iload_n 2, 1) := by decide +kernel
theorem dX10_cell_53 : decode cX10_cell 53 = .ok (.iadd, 1) := by decide +kernel
theorem dX10_cell_54 : decode cX10_cell 54 = .ok (.aload_n 0, 1) := by decide +kernel
theorem dX10_cell_55 : decode cX10_cell 55 = .ok (.getfield 50, 3) := by decide +kernel
theorem dX10_cell_58 : decode cX10_cell 58 = .ok (.iload_n 1, 1) := by decide +kernel
theorem dX10_cell_59 : decode cX10_cell 59 = .ok (.iaload, 1) := by decide +kernel
theorem dX10_cell_60 : decode cX10_cell 60 = .ok (.ifCond .ne 8, 3) := by decide +kernel
theorem dX10_cell_63 : decode cX10_cell 63 = .ok (.iload_n 3, 1) := by decide +kernel
theorem dX10_cell_64 : decode cX10_cell 64 = .ok (.i2b, 1) := by decide +kernel
theorem dX10_cell_65 : decode cX10_cell 65 = .ok (.goto 19, 3) := by decide +kernel
theorem dX10_cell_68 : decode cX10_cell 68 = .ok (.aload_n 0, 1) := by decide +kernel
theorem dX10_cell_69 : decode cX10_cell 69 = .ok (.getfield 50, 3) := by decide +kernel
theorem dX10_cell_72 : decode cX10_cell 72 = .ok (.iload_n 1, 1) := by decide +kernel
theorem dX10_cell_73 : decode cX10_cell 73 = .ok (.iaload, 1) := by decide +kernel
theorem dX10_cell_74 : decode cX10_cell 74 = .ok (.iconst 1, 1) := by decide +kernel
theorem dX10_cell_75 : decode cX10_cell 75 = .ok (.if_icmp .ne 8, 3) := by decide +kernel
theorem dX10_cell_78 : decode cX10_cell 78 = .ok (.iload_n 3, 1) := by decide +kernel
theorem dX10_cell_79 : decode cX10_cell 79 = .ok (.i2s, 1) := by decide +kernel
theorem dX10_cell_80 : decode cX10_cell 80 = .ok (.goto 4, 3) := by decide +kernel
theorem dX10_cell_83 : decode cX10_cell 83 = .ok (.iload_n 3, 1) := by decide +kernel
theorem dX10_cell_84 : decode cX10_cell 84 = .ok (.iastore, 1) := by decide +kernel
theorem dX10_cell_85 : decode cX10_cell 85 = .ok (.iconst 1, 1) := by decide +kernel
theorem dX10_cell_86 : decode cX10_cell 86 = .ok (.ireturn, 1) := by decide +kernel
theorem dX10_copy_0 : decode cX10_copy 0 = .ok (.iload_n 1, 1) := by decide +kernel
theorem dX10_copy_1 : decode cX10_copy 1 = .ok (.iconst 0, 1) := by decide +kernel
theorem dX10_copy_2 : decode cX10_copy 2 = .ok (.iconst 3, 1) := by decide +kernel
theorem dX10_copy_3 : decode cX10_copy 3 = .ok (.invokestatic 91, 3) := by decide +kernel
theorem dX10_copy_6 : decode cX10_copy 6 = .ok (.ifCond .eq 12, 3) := by decide +kernel
theorem dX10_copy_9 : decode cX10_copy 9 = .ok (.iload_n 3, 1) := by decide +kernel
theorem dX10_copy_10 : decode cX10_copy 10 = .ok (.iconst 0, 1) := by decide +kernel
theorem dX10_copy_11 : decode cX10_copy 11 = .ok (.iconst 3, 1) := by decide +kernel
theorem dX10_copy_12 : decode cX10_copy 12 = .ok (.invokestatic 91, 3) := by decide +kernel
theorem dX10_copy_15 : decode cX10_copy 15 = .ok (.ifCond .ne 6, 3) := by decide +kernel
theorem dX10_copy_18 : decode cX10_copy 18 = .ok (.bipush (-2), 2) := by decide +kernel
theorem dX10_copy_20 : decode cX10_copy 20 = .ok (.ireturn, 1) := by decide +kernel
theorem dX10_copy_21 : decode cX10_copy 21 = .ok (.aload_n 0, 1) := by decide +kernel
theorem dX10_copy_22 : decode cX10_copy 22 = .ok (.getfield 50, 3) := by decide +kernel
theorem dX10_copy_25 : decode cX10_copy 25 = .ok (.iload_n 1, 1) := by decide +kernel
theorem dX10_copy_26 : decode cX10_copy 26 = .ok (.iaload, 1) := by decide +kernel
theorem dX10_copy_27 : decode cX10_copy 27 = .ok (.iconst (-1), 1) := by decide +kernel
theorem dX10_copy_28 : decode cX10_copy 28 = .ok (.if_icmp .eq 13, 3) := by decide +kernel
theorem dX10_copy_31 : decode cX10_copy 31 = .ok (.aload_n 0, 1) := by decide +kernel
theorem dX10_copy_32 : decode cX10_copy 32 = .ok (.getfield 50, 3) := by decide +kernel
theorem dX10_copy_35 : decode cX10_copy 35 = .ok (.iload_n 3, 1) := by decide +kernel
theorem dX10_copy_36 : decode cX10_copy 36 = .ok (.iaload, 1) := by decide +kernel
theorem dX10_copy_37 : decode cX10_copy 37 = .ok (.iconst (-1), 1) := by decide +kernel
theorem dX10_copy_38 : decode cX10_copy 38 = .ok (.if_icmp .ne 6, 3) := by decide +kernel
theorem dX10_copy_41 : decode cX10_copy 41 = .ok (.bipush (-11), 2) := by decide +kernel
theorem dX10_copy_43 : decode cX10_copy 43 = .ok (.ireturn, 1) := by decide +kernel
theorem dX10_copy_44 : decode cX10_copy 44 = .ok (.aload_n 0, 1) := by decide +kernel
theorem dX10_copy_45 : decode cX10_copy 45 = .ok (.getfield 50, 3) := by decide +kernel
theorem dX10_copy_48 : decode cX10_copy 48 = .ok (.iload_n 1, 1) := by decide +kernel
theorem dX10_copy_49 : decode cX10_copy 49 = .ok (.iaload, 1) := by decide +kernel
theorem dX10_copy_50 : decode cX10_copy 50 = .ok (.aload_n 0, 1) := by decide +kernel
theorem dX10_copy_51 : decode cX10_copy 51 = .ok (.getfield 50, 3) := by decide +kernel
theorem dX10_copy_54 : decode cX10_copy 54 = .ok (.iload_n 3, 1) := by decide +kernel
theorem dX10_copy_55 : decode cX10_copy 55 = .ok (.iaload, 1) := by decide +kernel
theorem dX10_copy_56 : decode cX10_copy 56 = .ok (.if_icmp .eq 6, 3) := by decide +kernel
theorem dX10_copy_59 : decode cX10_copy 59 = .ok (.bipush (-13), 2) := by decide +kernel
theorem dX10_copy_61 : decode cX10_copy 61 = .ok (.ireturn, 1) := by decide +kernel
theorem dX10_copy_62 : decode cX10_copy 62 = .ok (.iload 5, 2) := by decide +kernel
theorem dX10_copy_64 : decode cX10_copy 64 = .ok (.ifCond .lt 60, 3) := by decide +kernel
theorem dX10_copy_67 : decode cX10_copy 67 = .ok (.iload_n 2, 1) := by decide +kernel
theorem dX10_copy_68 : decode cX10_copy 68 = .ok (.ifCond .lt 56, 3) := by decide +kernel
theorem dX10_copy_71 : decode cX10_copy 71 = .ok (.iload 4, 2) := by decide +kernel
theorem dX10_copy_73 : decode cX10_copy 73 = .ok (.ifCond .lt 51, 3) := by decide +kernel
theorem dX10_copy_76 : decode cX10_copy 76 = .ok (.iload_n 2, 1) := by decide +kernel
theorem dX10_copy_77 : decode cX10_copy 77 = .ok (.aload_n 0, 1) := by decide +kernel
theorem dX10_copy_78 : decode cX10_copy 78 = .ok (.getfield 53, 3) := by decide +kernel
theorem dX10_copy_81 : decode cX10_copy 81 = .ok (.iload_n 1, 1) := by decide +kernel
theorem dX10_copy_82 : decode cX10_copy 82 = .ok (.iaload, 1) := by decide +kernel
theorem dX10_copy_83 : decode cX10_copy 83 = .ok (.if_icmp .gt 41, 3) := by decide +kernel
theorem dX10_copy_86 : decode cX10_copy 86 = .ok (.iload 4, 2) := by decide +kernel
theorem dX10_copy_88 : decode cX10_copy 88 = .ok (.aload_n 0, 1) := by decide +kernel
theorem dX10_copy_89 : decode cX10_copy 89 = .ok (.getfield 53, 3) := by decide +kernel
theorem dX10_copy_92 : decode cX10_copy 92 = .ok (.iload_n 3, 1) := by decide +kernel
theorem dX10_copy_93 : decode cX10_copy 93 = .ok (.iaload, 1) := by decide +kernel
theorem dX10_copy_94 : decode cX10_copy 94 = .ok (.if_icmp .gt 30, 3) := by decide +kernel
theorem dX10_copy_97 : decode cX10_copy 97 = .ok (.iload 5, 2) := by decide +kernel
theorem dX10_copy_99 : decode cX10_copy 99 = .ok (.aload_n 0, 1) := by decide +kernel
theorem dX10_copy_100 : decode cX10_copy 100 = .ok (.getfield 53, 3) := by decide +kernel
theorem dX10_copy_103 : decode cX10_copy 103 = .ok (.iload_n 1, 1) := by decide +kernel
theorem dX10_copy_104 : decode cX10_copy 104 = .ok (.iaload, 1) := by decide +kernel
theorem dX10_copy_105 : decode cX10_copy 105 = .ok (.iload_n 2, 1) := by decide +kernel
theorem dX10_copy_106 : decode cX10_copy 106 = .ok (.isub, 1) := by decide +kernel
theorem dX10_copy_107 : decode cX10_copy 107 = .ok (.if_icmp .gt 17, 3) := by decide +kernel
theorem dX10_copy_110 : decode cX10_copy 110 = .ok (.iload 5, 2) := by decide +kernel
theorem dX10_copy_112 : decode cX10_copy 112 = .ok (.aload_n 0, 1) := by decide +kernel
theorem dX10_copy_113 : decode cX10_copy 113 = .ok (.getfield 53, 3) := by decide +kernel
theorem dX10_copy_116 : decode cX10_copy 116 = .ok (.iload_n 3, 1) := by decide +kernel
theorem dX10_copy_117 : decode cX10_copy 117 = .ok (.iaload, 1) := by decide +kernel
theorem dX10_copy_118 : decode cX10_copy 118 = .ok (.iload 4, 2) := by decide +kernel
theorem dX10_copy_120 : decode cX10_copy 120 = .ok (.isub, 1) := by decide +kernel
theorem dX10_copy_121 : decode cX10_copy 121 = .ok (.if_icmp .le 6, 3) := by decide +kernel
theorem dX10_copy_124 : decode cX10_copy 124 = .ok (.bipush (-12), 2) := by decide +kernel
theorem dX10_copy_126 : decode cX10_copy 126 = .ok (.ireturn, 1) := by decide +kernel
theorem dX10_copy_127 : decode cX10_copy 127 = .ok (.bipush 40, 2) := by decide +kernel
theorem dX10_copy_129 : decode cX10_copy 129 = .ok (.iload_n 1, 1) := by decide +kernel
theorem dX10_copy_130 : decode cX10_copy 130 = .ok (.imul, 1) := by decide +kernel
theorem dX10_copy_131 : decode cX10_copy 131 = .ok (.iload_n 2, 1) := by decide +kernel
theorem dX10_copy_132 : decode cX10_copy 132 = .ok (.iadd, 1) := by decide +kernel
theorem dX10_copy_133 : decode cX10_copy 133 = .ok (.istore 6, 2) := by decide +kernel
theorem dX10_copy_135 : decode cX10_copy 135 = .ok (.bipush 40, 2) := by decide +kernel
theorem dX10_copy_137 : decode cX10_copy 137 = .ok (.iload_n 3, 1) := by decide +kernel
theorem dX10_copy_138 : decode cX10_copy 138 = .ok (.imul, 1) := by decide +kernel
theorem dX10_copy_139 : decode cX10_copy 139 = .ok (.iload 4, 2) := by decide +kernel
theorem dX10_copy_141 : decode cX10_copy 141 = .ok (.iadd, 1) := by decide +kernel
theorem dX10_copy_142 : decode cX10_copy 142 = .ok (.istore 7, 2) := by decide +kernel
theorem dX10_copy_144 : decode cX10_copy 144 = .ok (.iconst 0, 1) := by decide +kernel
theorem dX10_copy_145 : decode cX10_copy 145 = .ok (.istore 8, 2) := by decide +kernel
theorem dX10_copy_147 : decode cX10_copy 147 = .ok (.iload 8, 2) := by decide +kernel
theorem dX10_copy_149 : decode cX10_copy 149 = .ok (.iload 5, 2) := by decide +kernel
theorem dX10_copy_151 : decode cX10_copy 151 = .ok (.if_icmp .ge 50, 3) := by decide +kernel
theorem dX10_copy_154 : decode cX10_copy 154 = .ok (.iload 6, 2) := by decide +kernel
theorem dX10_copy_156 : decode cX10_copy 156 = .ok (.iload 7, 2) := by decide +kernel
theorem dX10_copy_158 : decode cX10_copy 158 = .ok (.if_icmp .ge 13, 3) := by decide +kernel
theorem dX10_copy_161 : decode cX10_copy 161 = .ok (.iload 5, 2) := by decide +kernel
theorem dX10_copy_163 : decode cX10_copy 163 = .ok (.iconst 1, 1) := by decide +kernel
theorem dX10_copy_164 : decode cX10_copy 164 = .ok (.isub, 1) := by decide +kernel
theorem dX10_copy_165 : decode cX10_copy 165 = .ok (.iload 8, 2) := by decide +kernel
theorem dX10_copy_167 : decode cX10_copy 167 = .ok (.isub, 1) := by decide +kernel
theorem dX10_copy_168 : decode cX10_copy 168 = .ok (.goto 5, 3) := by decide +kernel
theorem dX10_copy_171 : decode cX10_copy 171 = .ok (.iload 8, 2) := by decide +kernel
theorem dX10_copy_173 : decode cX10_copy 173 = .ok (.istore 9, 2) := by decide +kernel
theorem dX10_copy_175 : decode cX10_copy 175 = .ok (.aload_n 0, 1) := by decide +kernel
theorem dX10_copy_176 : decode cX10_copy 176 = .ok (.getfield 56, 3) := by decide +kernel
theorem dX10_copy_179 : decode cX10_copy 179 = .ok (.iload 7, 2) := by decide +kernel
theorem dX10_copy_181 : decode cX10_copy 181 = .ok (.iload 9, 2) := by decide +kernel
theorem dX10_copy_183 : decode cX10_copy 183 = .ok (.iadd, 1) := by decide +kernel
theorem dX10_copy_184 : decode cX10_copy 184 = .ok (.aload_n 0, 1) := by decide +kernel
theorem dX10_copy_185 : decode cX10_copy 185 = .ok (.getfield 56, 3) := by decide +kernel
theorem dX10_copy_188 : decode cX10_copy 188 = .ok (.iload 6, 2) := by decide +kernel
theorem dX10_copy_190 : decode cX10_copy 190 = .ok (.iload 9, 2) := by decide +kernel
theorem dX10_copy_192 : decode cX10_copy 192 = .ok (.iadd, 1) := by decide +kernel
theorem dX10_copy_193 : decode cX10_copy 193 = .ok (.iaload, 1) := by decide +kernel
theorem dX10_copy_194 : decode cX10_copy 194 = .ok (.iastore, 1) := by decide +kernel
theorem dX10_copy_195 : decode cX10_copy 195 = .ok (.iinc 8 1, 3) := by decide +kernel
theorem dX10_copy_198 : decode cX10_copy 198 = .ok (.goto (-51), 3) := by decide +kernel
theorem dX10_copy_201 : decode cX10_copy 201 = .ok (.iload 5, 2) := by decide +kernel
theorem dX10_copy_203 : decode cX10_copy 203 = .ok (.ireturn, 1) := by decide +kernel
theorem dX10_guardsBy_0 : decode cX10_guardsBy 0 = .ok (.iload_n 1, 1) := by decide +kernel
theorem dX10_guardsBy_1 : decode cX10_guardsBy 1 = .ok (.iconst 0, 1) := by decide +kernel
theorem dX10_guardsBy_2 : decode cX10_guardsBy 2 = .ok (.iconst 3, 1) := by decide +kernel
theorem dX10_guardsBy_3 : decode cX10_guardsBy 3 = .ok (.invokestatic 91, 3) := by decide +kernel
theorem dX10_guardsBy_6 : decode cX10_guardsBy 6 = .ok (.ifCond .eq 22, 3) := by decide +kernel
theorem dX10_guardsBy_9 : decode cX10_guardsBy 9 = .ok (.iload_n 2, 1) := by decide +kernel
theorem dX10_guardsBy_10 : decode cX10_guardsBy 10 = .ok (.iconst 0, 1) := by decide +kernel
theorem dX10_guardsBy_11 : decode cX10_guardsBy 11 = .ok (.iconst 2, 1) := by decide +kernel
theorem dX10_guardsBy_12 : decode cX10_guardsBy 12 = .ok (.invokestatic 91, 3) := by decide +kernel
theorem dX10_guardsBy_15 : decode cX10_guardsBy 15 = .ok (.ifCond .eq 13, 3) := by decide +kernel
theorem dX10_guardsBy_18 : decode cX10_guardsBy 18 = .ok (.iload 4, 2) := by decide +kernel
theorem dX10_guardsBy_20 : decode cX10_guardsBy 20 = .ok (.iconst 0, 1) := by decide +kernel
theorem dX10_guardsBy_21 : decode cX10_guardsBy 21 = .ok (.iconst 5, 1) := by decide +kernel
theorem dX10_guardsBy_22 : decode cX10_guardsBy 22 = .ok (.invokestatic 91, 3) := by decide +kernel
theorem dX10_guardsBy_25 : decode cX10_guardsBy 25 = .ok (.ifCond .ne 6, 3) := by decide +kernel
theorem dX10_guardsBy_28 : decode cX10_guardsBy 28 = .ok (.bipush (-2), 2) := by decide +kernel
theorem dX10_guardsBy_30 : decode cX10_guardsBy 30 = .ok (.ireturn, 1) := by decide +kernel
theorem dX10_guardsBy_31 : decode cX10_guardsBy 31 = .ok (.aload_n 0, 1) := by decide +kernel
theorem dX10_guardsBy_32 : decode cX10_guardsBy 32 = .ok (.getfield 50, 3) := by decide +kernel
theorem dX10_guardsBy_35 : decode cX10_guardsBy 35 = .ok (.iload_n 1, 1) := by decide +kernel
theorem dX10_guardsBy_36 : decode cX10_guardsBy 36 = .ok (.iaload, 1) := by decide +kernel
theorem dX10_guardsBy_37 : decode cX10_guardsBy 37 = .ok (.iconst (-1), 1) := by decide +kernel
theorem dX10_guardsBy_38 : decode cX10_guardsBy 38 = .ok (.if_icmp .ne 6, 3) := by decide +kernel
theorem dX10_guardsBy_41 : decode cX10_guardsBy 41 = .ok (.bipush (-11), 2) := by decide +kernel
theorem dX10_guardsBy_43 : decode cX10_guardsBy 43 = .ok (.ireturn, 1) := by decide +kernel
theorem dX10_guardsBy_44 : decode cX10_guardsBy 44 = .ok (.aload_n 0, 1) := by decide +kernel
theorem dX10_guardsBy_45 : decode cX10_guardsBy 45 = .ok (.getfield 50, 3) := by decide +kernel
theorem dX10_guardsBy_48 : decode cX10_guardsBy 48 = .ok (.iload_n 1, 1) := by decide +kernel
theorem dX10_guardsBy_49 : decode cX10_guardsBy 49 = .ok (.iaload, 1) := by decide +kernel
theorem dX10_guardsBy_50 : decode cX10_guardsBy 50 = .ok (.iload_n 2, 1) := by decide +kernel
theorem dX10_guardsBy_51 : decode cX10_guardsBy 51 = .ok (.if_icmp .eq 6, 3) := by decide +kernel
theorem dX10_guardsBy_54 : decode cX10_guardsBy 54 = .ok (.bipush (-13), 2) := by decide +kernel
theorem dX10_guardsBy_56 : decode cX10_guardsBy 56 = .ok (.ireturn, 1) := by decide +kernel
theorem dX10_guardsBy_57 : decode cX10_guardsBy 57 = .ok (.iconst 0, 1) := by decide +kernel
theorem dX10_guardsBy_58 : decode cX10_guardsBy 58 = .ok (.istore 5, 2) := by decide +kernel
theorem dX10_guardsBy_60 : decode cX10_guardsBy 60 = .ok (.iconst 0, 1) := by decide +kernel
theorem dX10_guardsBy_61 : decode cX10_guardsBy 61 = .ok (.istore 6, 2) := by decide +kernel
theorem dX10_guardsBy_63 : decode cX10_guardsBy 63 = .ok (.iload 6, 2) := by decide +kernel
theorem dX10_guardsBy_65 : decode cX10_guardsBy 65 = .ok (.iload 4, 2) := by decide +kernel
theorem dX10_guardsBy_67 : decode cX10_guardsBy 67 = .ok (.if_icmp .ge 103, 3) := by decide +kernel
theorem dX10_guardsBy_70 : decode cX10_guardsBy 70 = .ok (.iload_n 3, 1) := by decide +kernel
theorem dX10_guardsBy_71 : decode cX10_guardsBy 71 = .ok (.iconst 4, 1) := by decide +kernel
theorem dX10_guardsBy_72 : decode cX10_guardsBy 72 = .ok (.iload 6, 2) := by decide +kernel
theorem dX10_guardsBy_74 : decode cX10_guardsBy 74 = .ok (.imul, 1) := by decide +kernel
theorem dX10_guardsBy_75 : decode cX10_guardsBy 75 = .ok (.iadd, 1) := by decide +kernel
theorem dX10_guardsBy_76 : decode cX10_guardsBy 76 = .ok (.istore 7, 2) := by decide +kernel
theorem dX10_guardsBy_78 : decode cX10_guardsBy 78 = .ok (.iload_n 3, 1) := by decide +kernel
theorem dX10_guardsBy_79 : decode cX10_guardsBy 79 = .ok (.ifCond .lt 22, 3) := by decide +kernel
theorem dX10_guardsBy_82 : decode cX10_guardsBy 82 = .ok (.iload 7, 2) := by decide +kernel
theorem dX10_guardsBy_84 : decode cX10_guardsBy 84 = .ok (.iload_n 3, 1) := by decide +kernel
theorem dX10_guardsBy_85 : decode cX10_guardsBy 85 = .ok (.if_icmp .lt 16, 3) := by decide +kernel
theorem dX10_guardsBy_88 : decode cX10_guardsBy 88 = .ok (.iload 7, 2) := by decide +kernel
theorem dX10_guardsBy_90 : decode cX10_guardsBy 90 = .ok (.aload_n 0, 1) := by decide +kernel
theorem dX10_guardsBy_91 : decode cX10_guardsBy 91 = .ok (.getfield 53, 3) := by decide +kernel
theorem dX10_guardsBy_94 : decode cX10_guardsBy 94 = .ok (.iload_n 1, 1) := by decide +kernel
theorem dX10_guardsBy_95 : decode cX10_guardsBy 95 = .ok (.iaload, 1) := by decide +kernel
theorem dX10_guardsBy_96 : decode cX10_guardsBy 96 = .ok (.iconst 4, 1) := by decide +kernel
theorem dX10_guardsBy_97 : decode cX10_guardsBy 97 = .ok (.isub, 1) := by decide +kernel
theorem dX10_guardsBy_98 : decode cX10_guardsBy 98 = .ok (.if_icmp .le 6, 3) := by decide +kernel
theorem dX10_guardsBy_101 : decode cX10_guardsBy 101 = .ok (.bipush (-12), 2) := by decide +kernel
theorem dX10_guardsBy_103 : decode cX10_guardsBy 103 = .ok (.ireturn, 1) := by decide +kernel
theorem dX10_guardsBy_104 : decode cX10_guardsBy 104 = .ok (.bipush 40, 2) := by decide +kernel
theorem dX10_guardsBy_106 : decode cX10_guardsBy 106 = .ok (.iload_n 1, 1) := by decide +kernel
theorem dX10_guardsBy_107 : decode cX10_guardsBy 107 = .ok (.imul, 1) := by decide +kernel
theorem dX10_guardsBy_108 : decode cX10_guardsBy 108 = .ok (.iload 7, 2) := by decide +kernel
theorem dX10_guardsBy_110 : decode cX10_guardsBy 110 = .ok (.iadd, 1) := by decide +kernel
theorem dX10_guardsBy_111 : decode cX10_guardsBy 111 = .ok (.istore 8, 2) := by decide +kernel
theorem dX10_guardsBy_113 : decode cX10_guardsBy 113 = .ok (.iload 5, 2) := by decide +kernel
theorem dX10_guardsBy_115 : decode cX10_guardsBy 115 = .ok (.aload_n 0, 1) := by decide +kernel
theorem dX10_guardsBy_116 : decode cX10_guardsBy 116 = .ok (.aload_n 0, 1) := by decide +kernel
theorem dX10_guardsBy_117 : decode cX10_guardsBy 117 = .ok (.getfield 56, 3) := by decide +kernel
theorem dX10_guardsBy_120 : decode cX10_guardsBy 120 = .ok (.iload 8, 2) := by decide +kernel
theorem dX10_guardsBy_122 : decode cX10_guardsBy 122 = .ok (.iaload, 1) := by decide +kernel
theorem dX10_guardsBy_123 : decode cX10_guardsBy 123 = .ok (.aload_n 0, 1) := by decide +kernel
theorem dX10_guardsBy_124 : decode cX10_guardsBy 124 = .ok (.getfield 56, 3) := by decide +kernel
theorem dX10_guardsBy_127 : decode cX10_guardsBy 127 = .ok (.iload 8, 2) := by decide +kernel
theorem dX10_guardsBy_129 : decode cX10_guardsBy 129 = .ok (.iconst 1, 1) := by decide +kernel
theorem dX10_guardsBy_130 : decode cX10_guardsBy 130 = .ok (.iadd, 1) := by decide +kernel
theorem dX10_guardsBy_131 : decode cX10_guardsBy 131 = .ok (.iaload, 1) := by decide +kernel
theorem dX10_guardsBy_132 : decode cX10_guardsBy 132 = .ok (.aload_n 0, 1) := by decide +kernel
theorem dX10_guardsBy_133 : decode cX10_guardsBy 133 = .ok (.getfield 56, 3) := by decide +kernel
theorem dX10_guardsBy_136 : decode cX10_guardsBy 136 = .ok (.iload 8, 2) := by decide +kernel
theorem dX10_guardsBy_138 : decode cX10_guardsBy 138 = .ok (.iconst 2, 1) := by decide +kernel
theorem dX10_guardsBy_139 : decode cX10_guardsBy 139 = .ok (.iadd, 1) := by decide +kernel
theorem dX10_guardsBy_140 : decode cX10_guardsBy 140 = .ok (.iaload, 1) := by decide +kernel
theorem dX10_guardsBy_141 : decode cX10_guardsBy 141 = .ok (.aload_n 0, 1) := by decide +kernel
theorem dX10_guardsBy_142 : decode cX10_guardsBy 142 = .ok (.getfield 56, 3) := by decide +kernel
theorem dX10_guardsBy_145 : decode cX10_guardsBy 145 = .ok (.iload 8, 2) := by decide +kernel
theorem dX10_guardsBy_147 : decode cX10_guardsBy 147 = .ok (.iconst 3, 1) := by decide +kernel
theorem dX10_guardsBy_148 : decode cX10_guardsBy 148 = .ok (.iadd, 1) := by decide +kernel
theorem dX10_guardsBy_149 : decode cX10_guardsBy 149 = .ok (.iaload, 1) := by decide +kernel
theorem dX10_guardsBy_150 : decode cX10_guardsBy 150 = .ok (.invokevirtual 331, 3) := by decide +kernel
theorem dX10_guardsBy_153 : decode cX10_guardsBy 153 = .ok (.ifCond .lt 7, 3) := by decide +kernel
theorem dX10_guardsBy_156 : decode cX10_guardsBy 156 = .ok (.iconst 1, 1) := by decide +kernel
theorem dX10_guardsBy_157 : decode cX10_guardsBy 157 = .ok (.goto 4, 3) := by decide +kernel
theorem dX10_guardsBy_160 : decode cX10_guardsBy 160 = .ok (.iconst 0, 1) := by decide +kernel
theorem dX10_guardsBy_161 : decode cX10_guardsBy 161 = .ok (.iadd, 1) := by decide +kernel
theorem dX10_guardsBy_162 : decode cX10_guardsBy 162 = .ok (.istore 5, 2) := by decide +kernel
theorem dX10_guardsBy_164 : decode cX10_guardsBy 164 = .ok (.iinc 6 1, 3) := by decide +kernel
theorem dX10_guardsBy_167 : decode cX10_guardsBy 167 = .ok (.goto (-104), 3) := by decide +kernel
theorem dX10_guardsBy_170 : decode cX10_guardsBy 170 = .ok (.iload 5, 2) := by decide +kernel
theorem dX10_guardsBy_172 : decode cX10_guardsBy 172 = .ok (.ireturn, 1) := by decide +kernel
theorem dX10_isUnder_0 : decode cX10_isUnder 0 = .ok (.iload_n 1, 1) := by decide +kernel
theorem dX10_isUnder_1 : decode cX10_isUnder 1 = .ok (.ifCond .eq 28, 3) := by decide +kernel
theorem dX10_isUnder_4 : decode cX10_isUnder 4 = .ok (.iload_n 0, 1) := by decide +kernel
theorem dX10_isUnder_5 : decode cX10_isUnder 5 = .ok (.iload_n 1, 1) := by decide +kernel
theorem dX10_isUnder_6 : decode cX10_isUnder 6 = .ok (.if_icmp .eq 23, 3) := by decide +kernel
theorem dX10_isUnder_9 : decode cX10_isUnder 9 = .ok (.iload_n 1, 1) := by decide +kernel
theorem dX10_isUnder_10 : decode cX10_isUnder 10 = .ok (.iconst 1, 1) := by decide +kernel
theorem dX10_isUnder_11 : decode cX10_isUnder 11 = .ok (.if_icmp .ne 8, 3) := by decide +kernel
theorem dX10_isUnder_14 : decode cX10_isUnder 14 = .ok (.iload_n 0, 1) := by decide +kernel
theorem dX10_isUnder_15 : decode cX10_isUnder 15 = .ok (.iconst 3, 1) := by decide +kernel
theorem dX10_isUnder_16 : decode cX10_isUnder 16 = .ok (.if_icmp .eq 13, 3) := by decide +kernel
theorem dX10_isUnder_19 : decode cX10_isUnder 19 = .ok (.iload_n 1, 1) := by decide +kernel
theorem dX10_isUnder_20 : decode cX10_isUnder 20 = .ok (.iconst 2, 1) := by decide +kernel
theorem dX10_isUnder_21 : decode cX10_isUnder 21 = .ok (.if_icmp .ne 12, 3) := by decide +kernel
theorem dX10_isUnder_24 : decode cX10_isUnder 24 = .ok (.iload_n 0, 1) := by decide +kernel
theorem dX10_isUnder_25 : decode cX10_isUnder 25 = .ok (.iconst 4, 1) := by decide +kernel
theorem dX10_isUnder_26 : decode cX10_isUnder 26 = .ok (.if_icmp .ne 7, 3) := by decide +kernel
theorem dX10_isUnder_29 : decode cX10_isUnder 29 = .ok (.iconst 1, 1) := by decide +kernel
theorem dX10_isUnder_30 : decode cX10_isUnder 30 = .ok (.goto 4, 3) := by decide +kernel
theorem dX10_isUnder_33 : decode cX10_isUnder 33 = .ok (.iconst 0, 1) := by decide +kernel
theorem dX10_isUnder_34 : decode cX10_isUnder 34 = .ok (.ireturn, 1) := by decide +kernel
theorem dX10_taken_0 : decode cX10_taken 0 = .ok (.iload_n 2, 1) := by decide +kernel
theorem dX10_taken_1 : decode cX10_taken 1 = .ok (.iconst 0, 1) := by decide +kernel
theorem dX10_taken_2 : decode cX10_taken 2 = .ok (.bipush 6, 2) := by decide +kernel
theorem dX10_taken_4 : decode cX10_taken 4 = .ok (.invokestatic 91, 3) := by decide +kernel
theorem dX10_taken_7 : decode cX10_taken 7 = .ok (.ifCond .ne 6, 3) := by decide +kernel
theorem dX10_taken_10 : decode cX10_taken 10 = .ok (.bipush (-2), 2) := by decide +kernel
theorem dX10_taken_12 : decode cX10_taken 12 = .ok (.ireturn, 1) := by decide +kernel
theorem dX10_taken_13 : decode cX10_taken 13 = .ok (.iload_n 1, 1) := by decide +kernel
theorem dX10_taken_14 : decode cX10_taken 14 = .ok (.iconst 0, 1) := by decide +kernel
theorem dX10_taken_15 : decode cX10_taken 15 = .ok (.bipush 40, 2) := by decide +kernel
theorem dX10_taken_17 : decode cX10_taken 17 = .ok (.invokestatic 91, 3) := by decide +kernel
theorem dX10_taken_20 : decode cX10_taken 20 = .ok (.ifCond .ne 6, 3) := by decide +kernel
theorem dX10_taken_23 : decode cX10_taken 23 = .ok (.bipush (-12), 2) := by decide +kernel
theorem dX10_taken_25 : decode cX10_taken 25 = .ok (.ireturn, 1) := by decide +kernel
theorem dX10_taken_26 : decode cX10_taken 26 = .ok (.iload_n 1, 1) := by decide +kernel
theorem dX10_taken_27 : decode cX10_taken 27 = .ok (.bipush 36, 2) := by decide +kernel
theorem dX10_taken_29 : decode cX10_taken 29 = .ok (.if_icmp .ge 67, 3) := by decide +kernel
theorem dX10_taken_32 : decode cX10_taken 32 = .ok (.iconst 0, 1) := by decide +kernel
theorem dX10_taken_33 : decode cX10_taken 33 = .ok (.istore_n 3, 1) := by decide +kernel
theorem dX10_taken_34 : decode cX10_taken 34 = .ok (.iconst 0, 1) := by decide +kernel
theorem dX10_taken_35 : decode cX10_taken 35 = .ok (.istore 4, 2) := by decide +kernel
theorem dX10_taken_37 : decode cX10_taken 37 = .ok (.iload 4, 2) := by decide +kernel
theorem dX10_taken_39 : decode cX10_taken 39 = .ok (.iconst 3, 1) := by decide +kernel
theorem dX10_taken_40 : decode cX10_taken 40 = .ok (.if_icmp .ge 34, 3) := by decide +kernel
theorem dX10_taken_43 : decode cX10_taken 43 = .ok (.iload_n 3, 1) := by decide +kernel
theorem dX10_taken_44 : decode cX10_taken 44 = .ok (.aload_n 0, 1) := by decide +kernel
theorem dX10_taken_45 : decode cX10_taken 45 = .ok (.getfield 7, 3) := by decide +kernel
theorem dX10_taken_48 : decode cX10_taken 48 = .ok (.iload 4, 2) := by decide +kernel
theorem dX10_taken_50 : decode cX10_taken 50 = .ok (.laload, 1) := by decide +kernel
theorem dX10_taken_51 : decode cX10_taken 51 = .ok (.iload_n 1, 1) := by decide +kernel
theorem dX10_taken_52 : decode cX10_taken 52 = .ok (.invokestatic 100, 3) := by decide +kernel
theorem dX10_taken_55 : decode cX10_taken 55 = .ok (.ifCond .eq 10, 3) := by decide +kernel
theorem dX10_taken_58 : decode cX10_taken 58 = .ok (.iconst 1, 1) := by decide +kernel
theorem dX10_taken_59 : decode cX10_taken 59 = .ok (.iload 4, 2) := by decide +kernel
theorem dX10_taken_61 : decode cX10_taken 61 = .ok (.ishl, 1) := by decide +kernel
theorem dX10_taken_62 : decode cX10_taken 62 = .ok (.goto 4, 3) := by decide +kernel
theorem dX10_taken_65 : decode cX10_taken 65 = .ok (.iconst 0, 1) := by decide +kernel
theorem dX10_taken_66 : decode cX10_taken 66 = .ok (.ior, 1) := by decide +kernel
theorem dX10_taken_67 : decode cX10_taken 67 = .ok (.istore_n 3, 1) := by decide +kernel
theorem dX10_taken_68 : decode cX10_taken 68 = .ok (.iinc 4 1, 3) := by decide +kernel
theorem dX10_taken_71 : decode cX10_taken 71 = .ok (.goto (-34), 3) := by decide +kernel
theorem dX10_taken_74 : decode cX10_taken 74 = .ok (.iload_n 3, 1) := by decide +kernel
theorem dX10_taken_75 : decode cX10_taken 75 = .ok (.ifCond .ne 8, 3) := by decide +kernel
theorem dX10_taken_78 : decode cX10_taken 78 = .ok (.bipush (-11), 2) := by decide +kernel
theorem dX10_taken_80 : decode cX10_taken 80 = .ok (.goto 15, 3) := by decide +kernel
theorem dX10_taken_83 : decode cX10_taken 83 = .ok (.iload_n 2, 1) := by decide +kernel
theorem dX10_taken_84 : decode cX10_taken 84 = .ok (.bipush 6, 2) := by decide +kernel
theorem dX10_taken_86 : decode cX10_taken 86 = .ok (.if_icmp .ne 7, 3) := by decide +kernel
theorem dX10_taken_89 : decode cX10_taken 89 = .ok (.iload_n 3, 1) := by decide +kernel
theorem dX10_taken_90 : decode cX10_taken 90 = .ok (.goto 5, 3) := by decide +kernel
theorem dX10_taken_93 : decode cX10_taken 93 = .ok (.bipush (-13), 2) := by decide +kernel
theorem dX10_taken_95 : decode cX10_taken 95 = .ok (.ireturn, 1) := by decide +kernel
theorem dX10_taken_96 : decode cX10_taken 96 = .ok (.iload_n 1, 1) := by decide +kernel
theorem dX10_taken_97 : decode cX10_taken 97 = .ok (.bipush 36, 2) := by decide +kernel
theorem dX10_taken_99 : decode cX10_taken 99 = .ok (.isub, 1) := by decide +kernel
theorem dX10_taken_100 : decode cX10_taken 100 = .ok (.aload_n 0, 1) := by decide +kernel
theorem dX10_taken_101 : decode cX10_taken 101 = .ok (.getfield 97, 3) := by decide +kernel
theorem dX10_taken_104 : decode cX10_taken 104 = .ok (.if_icmp .lt 8, 3) := by decide +kernel
theorem dX10_taken_107 : decode cX10_taken 107 = .ok (.bipush (-11), 2) := by decide +kernel
theorem dX10_taken_109 : decode cX10_taken 109 = .ok (.goto 34, 3) := by decide +kernel
theorem dX10_taken_112 : decode cX10_taken 112 = .ok (.iload_n 2, 1) := by decide +kernel
theorem dX10_taken_113 : decode cX10_taken 113 = .ok (.bipush 6, 2) := by decide +kernel
theorem dX10_taken_115 : decode cX10_taken 115 = .ok (.if_icmp .ge 26, 3) := by decide +kernel
theorem dX10_taken_118 : decode cX10_taken 118 = .ok (.aload_n 0, 1) := by decide +kernel
theorem dX10_taken_119 : decode cX10_taken 119 = .ok (.getfield 13, 3) := by decide +kernel
theorem dX10_taken_122 : decode cX10_taken 122 = .ok (.iload_n 1, 1) := by decide +kernel
theorem dX10_taken_123 : decode cX10_taken 123 = .ok (.bipush 36, 2) := by decide +kernel
theorem dX10_taken_125 : decode cX10_taken 125 = .ok (.isub, 1) := by decide +kernel
theorem dX10_taken_126 : decode cX10_taken 126 = .ok (.iaload, 1) := by decide +kernel
theorem dX10_taken_127 : decode cX10_taken 127 = .ok (.iload_n 2, 1) := by decide +kernel
theorem dX10_taken_128 : decode cX10_taken 128 = .ok (.invokestatic 335, 3) := by decide +kernel
theorem dX10_taken_131 : decode cX10_taken 131 = .ok (.ifCond .eq 10, 3) := by decide +kernel
theorem dX10_taken_134 : decode cX10_taken 134 = .ok (.iload_n 1, 1) := by decide +kernel
theorem dX10_taken_135 : decode cX10_taken 135 = .ok (.bipush 36, 2) := by decide +kernel
theorem dX10_taken_137 : decode cX10_taken 137 = .ok (.isub, 1) := by decide +kernel
theorem dX10_taken_138 : decode cX10_taken 138 = .ok (.goto 5, 3) := by decide +kernel
theorem dX10_taken_141 : decode cX10_taken 141 = .ok (.bipush (-13), 2) := by decide +kernel
theorem dX10_taken_143 : decode cX10_taken 143 = .ok (.ireturn, 1) := by decide +kernel
theorem dL_law_0 : decode code 0 = .ok (.new 7, 3) := by decide +kernel
theorem dL_law_3 : decode code 3 = .ok (.dup, 1) := by decide +kernel
theorem dL_law_4 : decode code 4 = .ok (.invokespecial 9, 3) := by decide +kernel
theorem dL_law_7 : decode code 7 = .ok (.astore_n 1, 1) := by decide +kernel
theorem dL_law_8 : decode code 8 = .ok (.new 10, 3) := by decide +kernel
theorem dL_law_11 : decode code 11 = .ok (.dup, 1) := by decide +kernel
theorem dL_law_12 : decode code 12 = .ok (.invokespecial 12, 3) := by decide +kernel
theorem dL_law_15 : decode code 15 = .ok (.astore_n 2, 1) := by decide +kernel
theorem dL_law_16 : decode code 16 = .ok (.iconst 0, 1) := by decide +kernel
theorem dL_law_17 : decode code 17 = .ok (.istore_n 3, 1) := by decide +kernel
theorem dL_law_18 : decode code 18 = .ok (.iload_n 3, 1) := by decide +kernel
theorem dL_law_19 : decode code 19 = .ok (.aload_n 0, 1) := by decide +kernel
theorem dL_law_20 : decode code 20 = .ok (.arraylength, 1) := by decide +kernel
theorem dL_law_21 : decode code 21 = .ok (.bipush 7, 2) := by decide +kernel
theorem dL_law_23 : decode code 23 = .ok (.isub, 1) := by decide +kernel
theorem dL_law_24 : decode code 24 = .ok (.if_icmp .gt 1749, 3) := by decide +kernel
theorem dL_law_27 : decode code 27 = .ok (.aload_n 0, 1) := by decide +kernel
theorem dL_law_28 : decode code 28 = .ok (.iload_n 3, 1) := by decide +kernel
theorem dL_law_29 : decode code 29 = .ok (.iaload, 1) := by decide +kernel
theorem dL_law_30 : decode code 30 = .ok (.bipush 63, 2) := by decide +kernel
theorem dL_law_32 : decode code 32 = .ok (.iand, 1) := by decide +kernel
theorem dL_law_33 : decode code 33 = .ok (.tableswitch 1734 0 39 #[175, 239, 263, 306, 329, 404, 417, 440, 503, 556, 599, 632, 675, 709, 733, 756, 779, 802, 845, 898, 942, 975, 1018, 1051, 1114, 1177, 1250, 1283, 1307, 1340, 1373, 1406, 1429, 1473, 1486, 1499, 1542, 1585, 1648, 1701], 175) := by decide +kernel
theorem dL_law_208 : decode code 208 = .ok (.aload_n 1, 1) := by decide +kernel
theorem dL_law_209 : decode code 209 = .ok (.aload_n 0, 1) := by decide +kernel
theorem dL_law_210 : decode code 210 = .ok (.iload_n 3, 1) := by decide +kernel
theorem dL_law_211 : decode code 211 = .ok (.iconst 1, 1) := by decide +kernel
theorem dL_law_212 : decode code 212 = .ok (.iadd, 1) := by decide +kernel
theorem dL_law_213 : decode code 213 = .ok (.iaload, 1) := by decide +kernel
theorem dL_law_214 : decode code 214 = .ok (.aload_n 0, 1) := by decide +kernel
theorem dL_law_215 : decode code 215 = .ok (.iload_n 3, 1) := by decide +kernel
theorem dL_law_216 : decode code 216 = .ok (.iconst 2, 1) := by decide +kernel
theorem dL_law_217 : decode code 217 = .ok (.iadd, 1) := by decide +kernel
theorem dL_law_218 : decode code 218 = .ok (.iaload, 1) := by decide +kernel
theorem dL_law_219 : decode code 219 = .ok (.i2l, 1) := by decide +kernel
theorem dL_law_220 : decode code 220 = .ok (.bipush 32, 2) := by decide +kernel
theorem dL_law_222 : decode code 222 = .ok (.lshl, 1) := by decide +kernel
theorem dL_law_223 : decode code 223 = .ok (.aload_n 0, 1) := by decide +kernel
theorem dL_law_224 : decode code 224 = .ok (.iload_n 3, 1) := by decide +kernel
theorem dL_law_225 : decode code 225 = .ok (.iconst 3, 1) := by decide +kernel
theorem dL_law_226 : decode code 226 = .ok (.iadd, 1) := by decide +kernel
theorem dL_law_227 : decode code 227 = .ok (.iaload, 1) := by decide +kernel
theorem dL_law_228 : decode code 228 = .ok (.i2l, 1) := by decide +kernel
theorem dL_law_229 : decode code 229 = .ok (.ldc2_w 13, 3) := by decide +kernel
theorem dL_law_232 : decode code 232 = .ok (.land, 1) := by decide +kernel
theorem dL_law_233 : decode code 233 = .ok (.lor, 1) := by decide +kernel
theorem dL_law_234 : decode code 234 = .ok (.invokevirtual 15, 3) := by decide +kernel
theorem dL_law_237 : decode code 237 = .ok (.aload_n 2, 1) := by decide +kernel
theorem dL_law_238 : decode code 238 = .ok (.aload_n 0, 1) := by decide +kernel
theorem dL_law_239 : decode code 239 = .ok (.iload_n 3, 1) := by decide +kernel
theorem dL_law_240 : decode code 240 = .ok (.iconst 1, 1) := by decide +kernel
theorem dL_law_241 : decode code 241 = .ok (.iadd, 1) := by decide +kernel
theorem dL_law_242 : decode code 242 = .ok (.iaload, 1) := by decide +kernel
theorem dL_law_243 : decode code 243 = .ok (.aload_n 0, 1) := by decide +kernel
theorem dL_law_244 : decode code 244 = .ok (.iload_n 3, 1) := by decide +kernel
theorem dL_law_245 : decode code 245 = .ok (.iconst 2, 1) := by decide +kernel
theorem dL_law_246 : decode code 246 = .ok (.iadd, 1) := by decide +kernel
theorem dL_law_247 : decode code 247 = .ok (.iaload, 1) := by decide +kernel
theorem dL_law_248 : decode code 248 = .ok (.i2l, 1) := by decide +kernel
theorem dL_law_249 : decode code 249 = .ok (.bipush 32, 2) := by decide +kernel
theorem dL_law_251 : decode code 251 = .ok (.lshl, 1) := by decide +kernel
theorem dL_law_252 : decode code 252 = .ok (.aload_n 0, 1) := by decide +kernel
theorem dL_law_253 : decode code 253 = .ok (.iload_n 3, 1) := by decide +kernel
theorem dL_law_254 : decode code 254 = .ok (.iconst 3, 1) := by decide +kernel
theorem dL_law_255 : decode code 255 = .ok (.iadd, 1) := by decide +kernel
theorem dL_law_256 : decode code 256 = .ok (.iaload, 1) := by decide +kernel
theorem dL_law_257 : decode code 257 = .ok (.i2l, 1) := by decide +kernel
theorem dL_law_258 : decode code 258 = .ok (.ldc2_w 13, 3) := by decide +kernel
theorem dL_law_261 : decode code 261 = .ok (.land, 1) := by decide +kernel
theorem dL_law_262 : decode code 262 = .ok (.lor, 1) := by decide +kernel
theorem dL_law_263 : decode code 263 = .ok (.invokevirtual 19, 3) := by decide +kernel
theorem dL_law_266 : decode code 266 = .ok (.lcmp, 1) := by decide +kernel
theorem dL_law_267 : decode code 267 = .ok (.ifCond .eq 1500, 3) := by decide +kernel
theorem dL_law_270 : decode code 270 = .ok (.iconst 0, 1) := by decide +kernel
theorem dL_law_271 : decode code 271 = .ok (.ireturn, 1) := by decide +kernel
theorem dL_law_272 : decode code 272 = .ok (.aload_n 1, 1) := by decide +kernel
theorem dL_law_273 : decode code 273 = .ok (.aload_n 0, 1) := by decide +kernel
theorem dL_law_274 : decode code 274 = .ok (.iload_n 3, 1) := by decide +kernel
theorem dL_law_275 : decode code 275 = .ok (.iconst 1, 1) := by decide +kernel
theorem dL_law_276 : decode code 276 = .ok (.iadd, 1) := by decide +kernel
theorem dL_law_277 : decode code 277 = .ok (.iaload, 1) := by decide +kernel
theorem dL_law_278 : decode code 278 = .ok (.invokevirtual 20, 3) := by decide +kernel
theorem dL_law_281 : decode code 281 = .ok (.aload_n 2, 1) := by decide +kernel
theorem dL_law_282 : decode code 282 = .ok (.aload_n 0, 1) := by decide +kernel
theorem dL_law_283 : decode code 283 = .ok (.iload_n 3, 1) := by decide +kernel
theorem dL_law_284 : decode code 284 = .ok (.iconst 1, 1) := by decide +kernel
theorem dL_law_285 : decode code 285 = .ok (.iadd, 1) := by decide +kernel
theorem dL_law_286 : decode code 286 = .ok (.iaload, 1) := by decide +kernel
theorem dL_law_287 : decode code 287 = .ok (.invokevirtual 24, 3) := by decide +kernel
theorem dL_law_290 : decode code 290 = .ok (.lcmp, 1) := by decide +kernel
theorem dL_law_291 : decode code 291 = .ok (.ifCond .eq 1476, 3) := by decide +kernel
theorem dL_law_294 : decode code 294 = .ok (.iconst 0, 1) := by decide +kernel
theorem dL_law_295 : decode code 295 = .ok (.ireturn, 1) := by decide +kernel
theorem dL_law_296 : decode code 296 = .ok (.aload_n 1, 1) := by decide +kernel
theorem dL_law_297 : decode code 297 = .ok (.aload_n 0, 1) := by decide +kernel
theorem dL_law_298 : decode code 298 = .ok (.iload_n 3, 1) := by decide +kernel
theorem dL_law_299 : decode code 299 = .ok (.iconst 1, 1) := by decide +kernel
theorem dL_law_300 : decode code 300 = .ok (.iadd, 1) := by decide +kernel
theorem dL_law_301 : decode code 301 = .ok (.iaload, 1) := by decide +kernel
theorem dL_law_302 : decode code 302 = .ok (.aload_n 0, 1) := by decide +kernel
theorem dL_law_303 : decode code 303 = .ok (.iload_n 3, 1) := by decide +kernel
theorem dL_law_304 : decode code 304 = .ok (.iconst 2, 1) := by decide +kernel
theorem dL_law_305 : decode code 305 = .ok (.iadd, 1) := by decide +kernel
theorem dL_law_306 : decode code 306 = .ok (.iaload, 1) := by decide +kernel
theorem dL_law_307 : decode code 307 = .ok (.aload_n 0, 1) := by decide +kernel
theorem dL_law_308 : decode code 308 = .ok (.iload_n 3, 1) := by decide +kernel
theorem dL_law_309 : decode code 309 = .ok (.iconst 3, 1) := by decide +kernel
theorem dL_law_310 : decode code 310 = .ok (.iadd, 1) := by decide +kernel
theorem dL_law_311 : decode code 311 = .ok (.iaload, 1) := by decide +kernel
theorem dL_law_312 : decode code 312 = .ok (.invokevirtual 25, 3) := by decide +kernel
theorem dL_law_315 : decode code 315 = .ok (.aload_n 2, 1) := by decide +kernel
theorem dL_law_316 : decode code 316 = .ok (.aload_n 0, 1) := by decide +kernel
theorem dL_law_317 : decode code 317 = .ok (.iload_n 3, 1) := by decide +kernel
theorem dL_law_318 : decode code 318 = .ok (.iconst 1, 1) := by decide +kernel
theorem dL_law_319 : decode code 319 = .ok (.iadd, 1) := by decide +kernel
theorem dL_law_320 : decode code 320 = .ok (.iaload, 1) := by decide +kernel
theorem dL_law_321 : decode code 321 = .ok (.aload_n 0, 1) := by decide +kernel
theorem dL_law_322 : decode code 322 = .ok (.iload_n 3, 1) := by decide +kernel
theorem dL_law_323 : decode code 323 = .ok (.iconst 2, 1) := by decide +kernel
theorem dL_law_324 : decode code 324 = .ok (.iadd, 1) := by decide +kernel
theorem dL_law_325 : decode code 325 = .ok (.iaload, 1) := by decide +kernel
theorem dL_law_326 : decode code 326 = .ok (.aload_n 0, 1) := by decide +kernel
theorem dL_law_327 : decode code 327 = .ok (.iload_n 3, 1) := by decide +kernel
theorem dL_law_328 : decode code 328 = .ok (.iconst 3, 1) := by decide +kernel
theorem dL_law_329 : decode code 329 = .ok (.iadd, 1) := by decide +kernel
theorem dL_law_330 : decode code 330 = .ok (.iaload, 1) := by decide +kernel
theorem dL_law_331 : decode code 331 = .ok (.invokevirtual 29, 3) := by decide +kernel
theorem dL_law_334 : decode code 334 = .ok (.if_icmp .eq 1433, 3) := by decide +kernel
theorem dL_law_337 : decode code 337 = .ok (.iconst 0, 1) := by decide +kernel
theorem dL_law_338 : decode code 338 = .ok (.ireturn, 1) := by decide +kernel
theorem dL_law_339 : decode code 339 = .ok (.aload_n 1, 1) := by decide +kernel
theorem dL_law_340 : decode code 340 = .ok (.aload_n 0, 1) := by decide +kernel
theorem dL_law_341 : decode code 341 = .ok (.iload_n 3, 1) := by decide +kernel
theorem dL_law_342 : decode code 342 = .ok (.iconst 1, 1) := by decide +kernel
theorem dL_law_343 : decode code 343 = .ok (.iadd, 1) := by decide +kernel
theorem dL_law_344 : decode code 344 = .ok (.iaload, 1) := by decide +kernel
theorem dL_law_345 : decode code 345 = .ok (.invokevirtual 30, 3) := by decide +kernel
theorem dL_law_348 : decode code 348 = .ok (.aload_n 2, 1) := by decide +kernel
theorem dL_law_349 : decode code 349 = .ok (.aload_n 0, 1) := by decide +kernel
theorem dL_law_350 : decode code 350 = .ok (.iload_n 3, 1) := by decide +kernel
theorem dL_law_351 : decode code 351 = .ok (.iconst 1, 1) := by decide +kernel
theorem dL_law_352 : decode code 352 = .ok (.iadd, 1) := by decide +kernel
theorem dL_law_353 : decode code 353 = .ok (.iaload, 1) := by decide +kernel
theorem dL_law_354 : decode code 354 = .ok (.invokevirtual 34, 3) := by decide +kernel
theorem dL_law_357 : decode code 357 = .ok (.if_icmp .eq 1410, 3) := by decide +kernel
theorem dL_law_360 : decode code 360 = .ok (.iconst 0, 1) := by decide +kernel
theorem dL_law_361 : decode code 361 = .ok (.ireturn, 1) := by decide +kernel
theorem dL_law_362 : decode code 362 = .ok (.aload_n 1, 1) := by decide +kernel
theorem dL_law_363 : decode code 363 = .ok (.aload_n 0, 1) := by decide +kernel
theorem dL_law_364 : decode code 364 = .ok (.iload_n 3, 1) := by decide +kernel
theorem dL_law_365 : decode code 365 = .ok (.iconst 1, 1) := by decide +kernel
theorem dL_law_366 : decode code 366 = .ok (.iadd, 1) := by decide +kernel
theorem dL_law_367 : decode code 367 = .ok (.iaload, 1) := by decide +kernel
theorem dL_law_368 : decode code 368 = .ok (.aload_n 0, 1) := by decide +kernel
theorem dL_law_369 : decode code 369 = .ok (.iload_n 3, 1) := by decide +kernel
theorem dL_law_370 : decode code 370 = .ok (.iconst 2, 1) := by decide +kernel
theorem dL_law_371 : decode code 371 = .ok (.iadd, 1) := by decide +kernel
theorem dL_law_372 : decode code 372 = .ok (.iaload, 1) := by decide +kernel
theorem dL_law_373 : decode code 373 = .ok (.aload_n 0, 1) := by decide +kernel
theorem dL_law_374 : decode code 374 = .ok (.iload_n 3, 1) := by decide +kernel
theorem dL_law_375 : decode code 375 = .ok (.iconst 3, 1) := by decide +kernel
theorem dL_law_376 : decode code 376 = .ok (.iadd, 1) := by decide +kernel
theorem dL_law_377 : decode code 377 = .ok (.iaload, 1) := by decide +kernel
theorem dL_law_378 : decode code 378 = .ok (.aload_n 0, 1) := by decide +kernel
theorem dL_law_379 : decode code 379 = .ok (.iload_n 3, 1) := by decide +kernel
theorem dL_law_380 : decode code 380 = .ok (.iconst 4, 1) := by decide +kernel
theorem dL_law_381 : decode code 381 = .ok (.iadd, 1) := by decide +kernel
theorem dL_law_382 : decode code 382 = .ok (.iaload, 1) := by decide +kernel
theorem dL_law_383 : decode code 383 = .ok (.aload_n 0, 1) := by decide +kernel
theorem dL_law_384 : decode code 384 = .ok (.iload_n 3, 1) := by decide +kernel
theorem dL_law_385 : decode code 385 = .ok (.iconst 5, 1) := by decide +kernel
theorem dL_law_386 : decode code 386 = .ok (.iadd, 1) := by decide +kernel
theorem dL_law_387 : decode code 387 = .ok (.iaload, 1) := by decide +kernel
theorem dL_law_388 : decode code 388 = .ok (.aload_n 0, 1) := by decide +kernel
theorem dL_law_389 : decode code 389 = .ok (.iload_n 3, 1) := by decide +kernel
theorem dL_law_390 : decode code 390 = .ok (.bipush 6, 2) := by decide +kernel
theorem dL_law_392 : decode code 392 = .ok (.iadd, 1) := by decide +kernel
theorem dL_law_393 : decode code 393 = .ok (.iaload, 1) := by decide +kernel
theorem dL_law_394 : decode code 394 = .ok (.invokevirtual 35, 3) := by decide +kernel
theorem dL_law_397 : decode code 397 = .ok (.aload_n 2, 1) := by decide +kernel
theorem dL_law_398 : decode code 398 = .ok (.aload_n 0, 1) := by decide +kernel
theorem dL_law_399 : decode code 399 = .ok (.iload_n 3, 1) := by decide +kernel
theorem dL_law_400 : decode code 400 = .ok (.iconst 1, 1) := by decide +kernel
theorem dL_law_401 : decode code 401 = .ok (.iadd, 1) := by decide +kernel
theorem dL_law_402 : decode code 402 = .ok (.iaload, 1) := by decide +kernel
theorem dL_law_403 : decode code 403 = .ok (.aload_n 0, 1) := by decide +kernel
theorem dL_law_404 : decode code 404 = .ok (.iload_n 3, 1) := by decide +kernel
theorem dL_law_405 : decode code 405 = .ok (.iconst 2, 1) := by decide +kernel
theorem dL_law_406 : decode code 406 = .ok (.iadd, 1) := by decide +kernel
theorem dL_law_407 : decode code 407 = .ok (.iaload, 1) := by decide +kernel
theorem dL_law_408 : decode code 408 = .ok (.aload_n 0, 1) := by decide +kernel
theorem dL_law_409 : decode code 409 = .ok (.iload_n 3, 1) := by decide +kernel
theorem dL_law_410 : decode code 410 = .ok (.iconst 3, 1) := by decide +kernel
theorem dL_law_411 : decode code 411 = .ok (.iadd, 1) := by decide +kernel
theorem dL_law_412 : decode code 412 = .ok (.iaload, 1) := by decide +kernel
theorem dL_law_413 : decode code 413 = .ok (.aload_n 0, 1) := by decide +kernel
theorem dL_law_414 : decode code 414 = .ok (.iload_n 3, 1) := by decide +kernel
theorem dL_law_415 : decode code 415 = .ok (.iconst 4, 1) := by decide +kernel
theorem dL_law_416 : decode code 416 = .ok (.iadd, 1) := by decide +kernel
theorem dL_law_417 : decode code 417 = .ok (.iaload, 1) := by decide +kernel
theorem dL_law_418 : decode code 418 = .ok (.aload_n 0, 1) := by decide +kernel
theorem dL_law_419 : decode code 419 = .ok (.iload_n 3, 1) := by decide +kernel
theorem dL_law_420 : decode code 420 = .ok (.iconst 5, 1) := by decide +kernel
theorem dL_law_421 : decode code 421 = .ok (.iadd, 1) := by decide +kernel
theorem dL_law_422 : decode code 422 = .ok (.iaload, 1) := by decide +kernel
theorem dL_law_423 : decode code 423 = .ok (.aload_n 0, 1) := by decide +kernel
theorem dL_law_424 : decode code 424 = .ok (.iload_n 3, 1) := by decide +kernel
theorem dL_law_425 : decode code 425 = .ok (.bipush 6, 2) := by decide +kernel
theorem dL_law_427 : decode code 427 = .ok (.iadd, 1) := by decide +kernel
theorem dL_law_428 : decode code 428 = .ok (.iaload, 1) := by decide +kernel
theorem dL_law_429 : decode code 429 = .ok (.invokevirtual 39, 3) := by decide +kernel
theorem dL_law_432 : decode code 432 = .ok (.if_icmp .eq 1335, 3) := by decide +kernel
theorem dL_law_435 : decode code 435 = .ok (.iconst 0, 1) := by decide +kernel
theorem dL_law_436 : decode code 436 = .ok (.ireturn, 1) := by decide +kernel
theorem dL_law_437 : decode code 437 = .ok (.aload_n 1, 1) := by decide +kernel
theorem dL_law_438 : decode code 438 = .ok (.invokevirtual 40, 3) := by decide +kernel
theorem dL_law_441 : decode code 441 = .ok (.aload_n 2, 1) := by decide +kernel
theorem dL_law_442 : decode code 442 = .ok (.invokevirtual 44, 3) := by decide +kernel
theorem dL_law_445 : decode code 445 = .ok (.if_icmp .eq 1322, 3) := by decide +kernel
theorem dL_law_448 : decode code 448 = .ok (.iconst 0, 1) := by decide +kernel
theorem dL_law_449 : decode code 449 = .ok (.ireturn, 1) := by decide +kernel
theorem dL_law_450 : decode code 450 = .ok (.aload_n 1, 1) := by decide +kernel
theorem dL_law_451 : decode code 451 = .ok (.aload_n 0, 1) := by decide +kernel
theorem dL_law_452 : decode code 452 = .ok (.iload_n 3, 1) := by decide +kernel
theorem dL_law_453 : decode code 453 = .ok (.iconst 1, 1) := by decide +kernel
theorem dL_law_454 : decode code 454 = .ok (.iadd, 1) := by decide +kernel
theorem dL_law_455 : decode code 455 = .ok (.iaload, 1) := by decide +kernel
theorem dL_law_456 : decode code 456 = .ok (.invokevirtual 45, 3) := by decide +kernel
theorem dL_law_459 : decode code 459 = .ok (.aload_n 2, 1) := by decide +kernel
theorem dL_law_460 : decode code 460 = .ok (.aload_n 0, 1) := by decide +kernel
theorem dL_law_461 : decode code 461 = .ok (.iload_n 3, 1) := by decide +kernel
theorem dL_law_462 : decode code 462 = .ok (.iconst 1, 1) := by decide +kernel
theorem dL_law_463 : decode code 463 = .ok (.iadd, 1) := by decide +kernel
theorem dL_law_464 : decode code 464 = .ok (.iaload, 1) := by decide +kernel
theorem dL_law_465 : decode code 465 = .ok (.invokevirtual 48, 3) := by decide +kernel
theorem dL_law_468 : decode code 468 = .ok (.if_icmp .eq 1299, 3) := by decide +kernel
theorem dL_law_471 : decode code 471 = .ok (.iconst 0, 1) := by decide +kernel
theorem dL_law_472 : decode code 472 = .ok (.ireturn, 1) := by decide +kernel
theorem dL_law_473 : decode code 473 = .ok (.aload_n 1, 1) := by decide +kernel
theorem dL_law_474 : decode code 474 = .ok (.aload_n 0, 1) := by decide +kernel
theorem dL_law_475 : decode code 475 = .ok (.iload_n 3, 1) := by decide +kernel
theorem dL_law_476 : decode code 476 = .ok (.iconst 1, 1) := by decide +kernel
theorem dL_law_477 : decode code 477 = .ok (.iadd, 1) := by decide +kernel
theorem dL_law_478 : decode code 478 = .ok (.iaload, 1) := by decide +kernel
theorem dL_law_479 : decode code 479 = .ok (.aload_n 0, 1) := by decide +kernel
theorem dL_law_480 : decode code 480 = .ok (.iload_n 3, 1) := by decide +kernel
theorem dL_law_481 : decode code 481 = .ok (.iconst 2, 1) := by decide +kernel
theorem dL_law_482 : decode code 482 = .ok (.iadd, 1) := by decide +kernel
theorem dL_law_483 : decode code 483 = .ok (.iaload, 1) := by decide +kernel
theorem dL_law_484 : decode code 484 = .ok (.aload_n 0, 1) := by decide +kernel
theorem dL_law_485 : decode code 485 = .ok (.iload_n 3, 1) := by decide +kernel
theorem dL_law_486 : decode code 486 = .ok (.iconst 3, 1) := by decide +kernel
theorem dL_law_487 : decode code 487 = .ok (.iadd, 1) := by decide +kernel
theorem dL_law_488 : decode code 488 = .ok (.iaload, 1) := by decide +kernel
theorem dL_law_489 : decode code 489 = .ok (.aload_n 0, 1) := by decide +kernel
theorem dL_law_490 : decode code 490 = .ok (.iload_n 3, 1) := by decide +kernel
theorem dL_law_491 : decode code 491 = .ok (.iconst 4, 1) := by decide +kernel
theorem dL_law_492 : decode code 492 = .ok (.iadd, 1) := by decide +kernel
theorem dL_law_493 : decode code 493 = .ok (.iaload, 1) := by decide +kernel
theorem dL_law_494 : decode code 494 = .ok (.aload_n 0, 1) := by decide +kernel
theorem dL_law_495 : decode code 495 = .ok (.iload_n 3, 1) := by decide +kernel
theorem dL_law_496 : decode code 496 = .ok (.iconst 5, 1) := by decide +kernel
theorem dL_law_497 : decode code 497 = .ok (.iadd, 1) := by decide +kernel
theorem dL_law_498 : decode code 498 = .ok (.iaload, 1) := by decide +kernel
theorem dL_law_499 : decode code 499 = .ok (.invokevirtual 49, 3) := by decide +kernel
theorem dL_law_502 : decode code 502 = .ok (.aload_n 2, 1) := by decide +kernel
theorem dL_law_503 : decode code 503 = .ok (.aload_n 0, 1) := by decide +kernel
theorem dL_law_504 : decode code 504 = .ok (.iload_n 3, 1) := by decide +kernel
theorem dL_law_505 : decode code 505 = .ok (.iconst 1, 1) := by decide +kernel
theorem dL_law_506 : decode code 506 = .ok (.iadd, 1) := by decide +kernel
theorem dL_law_507 : decode code 507 = .ok (.iaload, 1) := by decide +kernel
theorem dL_law_508 : decode code 508 = .ok (.aload_n 0, 1) := by decide +kernel
theorem dL_law_509 : decode code 509 = .ok (.iload_n 3, 1) := by decide +kernel
theorem dL_law_510 : decode code 510 = .ok (.iconst 2, 1) := by decide +kernel
theorem dL_law_511 : decode code 511 = .ok (.iadd, 1) := by decide +kernel
theorem dL_law_512 : decode code 512 = .ok (.iaload, 1) := by decide +kernel
theorem dL_law_513 : decode code 513 = .ok (.aload_n 0, 1) := by decide +kernel
theorem dL_law_514 : decode code 514 = .ok (.iload_n 3, 1) := by decide +kernel
theorem dL_law_515 : decode code 515 = .ok (.iconst 3, 1) := by decide +kernel
theorem dL_law_516 : decode code 516 = .ok (.iadd, 1) := by decide +kernel
theorem dL_law_517 : decode code 517 = .ok (.iaload, 1) := by decide +kernel
theorem dL_law_518 : decode code 518 = .ok (.aload_n 0, 1) := by decide +kernel
theorem dL_law_519 : decode code 519 = .ok (.iload_n 3, 1) := by decide +kernel
theorem dL_law_520 : decode code 520 = .ok (.iconst 4, 1) := by decide +kernel
theorem dL_law_521 : decode code 521 = .ok (.iadd, 1) := by decide +kernel
theorem dL_law_522 : decode code 522 = .ok (.iaload, 1) := by decide +kernel
theorem dL_law_523 : decode code 523 = .ok (.aload_n 0, 1) := by decide +kernel
theorem dL_law_524 : decode code 524 = .ok (.iload_n 3, 1) := by decide +kernel
theorem dL_law_525 : decode code 525 = .ok (.iconst 5, 1) := by decide +kernel
theorem dL_law_526 : decode code 526 = .ok (.iadd, 1) := by decide +kernel
theorem dL_law_527 : decode code 527 = .ok (.iaload, 1) := by decide +kernel
theorem dL_law_528 : decode code 528 = .ok (.invokevirtual 53, 3) := by decide +kernel
theorem dL_law_531 : decode code 531 = .ok (.if_icmp .eq 1236, 3) := by decide +kernel
theorem dL_law_534 : decode code 534 = .ok (.iconst 0, 1) := by decide +kernel
theorem dL_law_535 : decode code 535 = .ok (.ireturn, 1) := by decide +kernel
theorem dL_law_536 : decode code 536 = .ok (.aload_n 1, 1) := by decide +kernel
theorem dL_law_537 : decode code 537 = .ok (.aload_n 0, 1) := by decide +kernel
theorem dL_law_538 : decode code 538 = .ok (.iload_n 3, 1) := by decide +kernel
theorem dL_law_539 : decode code 539 = .ok (.iconst 1, 1) := by decide +kernel
theorem dL_law_540 : decode code 540 = .ok (.iadd, 1) := by decide +kernel
theorem dL_law_541 : decode code 541 = .ok (.iaload, 1) := by decide +kernel
theorem dL_law_542 : decode code 542 = .ok (.aload_n 0, 1) := by decide +kernel
theorem dL_law_543 : decode code 543 = .ok (.iload_n 3, 1) := by decide +kernel
theorem dL_law_544 : decode code 544 = .ok (.iconst 2, 1) := by decide +kernel
theorem dL_law_545 : decode code 545 = .ok (.iadd, 1) := by decide +kernel
theorem dL_law_546 : decode code 546 = .ok (.iaload, 1) := by decide +kernel
theorem dL_law_547 : decode code 547 = .ok (.aload_n 0, 1) := by decide +kernel
theorem dL_law_548 : decode code 548 = .ok (.iload_n 3, 1) := by decide +kernel
theorem dL_law_549 : decode code 549 = .ok (.iconst 3, 1) := by decide +kernel
theorem dL_law_550 : decode code 550 = .ok (.iadd, 1) := by decide +kernel
theorem dL_law_551 : decode code 551 = .ok (.iaload, 1) := by decide +kernel
theorem dL_law_552 : decode code 552 = .ok (.aload_n 0, 1) := by decide +kernel
theorem dL_law_553 : decode code 553 = .ok (.iload_n 3, 1) := by decide +kernel
theorem dL_law_554 : decode code 554 = .ok (.iconst 4, 1) := by decide +kernel
theorem dL_law_555 : decode code 555 = .ok (.iadd, 1) := by decide +kernel
theorem dL_law_556 : decode code 556 = .ok (.iaload, 1) := by decide +kernel
theorem dL_law_557 : decode code 557 = .ok (.invokevirtual 54, 3) := by decide +kernel
theorem dL_law_560 : decode code 560 = .ok (.aload_n 2, 1) := by decide +kernel
theorem dL_law_561 : decode code 561 = .ok (.aload_n 0, 1) := by decide +kernel
theorem dL_law_562 : decode code 562 = .ok (.iload_n 3, 1) := by decide +kernel
theorem dL_law_563 : decode code 563 = .ok (.iconst 1, 1) := by decide +kernel
theorem dL_law_564 : decode code 564 = .ok (.iadd, 1) := by decide +kernel
theorem dL_law_565 : decode code 565 = .ok (.iaload, 1) := by decide +kernel
theorem dL_law_566 : decode code 566 = .ok (.aload_n 0, 1) := by decide +kernel
theorem dL_law_567 : decode code 567 = .ok (.iload_n 3, 1) := by decide +kernel
theorem dL_law_568 : decode code 568 = .ok (.iconst 2, 1) := by decide +kernel
theorem dL_law_569 : decode code 569 = .ok (.iadd, 1) := by decide +kernel
theorem dL_law_570 : decode code 570 = .ok (.iaload, 1) := by decide +kernel
theorem dL_law_571 : decode code 571 = .ok (.aload_n 0, 1) := by decide +kernel
theorem dL_law_572 : decode code 572 = .ok (.iload_n 3, 1) := by decide +kernel
theorem dL_law_573 : decode code 573 = .ok (.iconst 3, 1) := by decide +kernel
theorem dL_law_574 : decode code 574 = .ok (.iadd, 1) := by decide +kernel
theorem dL_law_575 : decode code 575 = .ok (.iaload, 1) := by decide +kernel
theorem dL_law_576 : decode code 576 = .ok (.aload_n 0, 1) := by decide +kernel
theorem dL_law_577 : decode code 577 = .ok (.iload_n 3, 1) := by decide +kernel
theorem dL_law_578 : decode code 578 = .ok (.iconst 4, 1) := by decide +kernel
theorem dL_law_579 : decode code 579 = .ok (.iadd, 1) := by decide +kernel
theorem dL_law_580 : decode code 580 = .ok (.iaload, 1) := by decide +kernel
theorem dL_law_581 : decode code 581 = .ok (.invokevirtual 58, 3) := by decide +kernel
theorem dL_law_584 : decode code 584 = .ok (.if_icmp .eq 1183, 3) := by decide +kernel
theorem dL_law_587 : decode code 587 = .ok (.iconst 0, 1) := by decide +kernel
theorem dL_law_588 : decode code 588 = .ok (.ireturn, 1) := by decide +kernel
theorem dL_law_589 : decode code 589 = .ok (.aload_n 1, 1) := by decide +kernel
theorem dL_law_590 : decode code 590 = .ok (.aload_n 0, 1) := by decide +kernel
theorem dL_law_591 : decode code 591 = .ok (.iload_n 3, 1) := by decide +kernel
theorem dL_law_592 : decode code 592 = .ok (.iconst 1, 1) := by decide +kernel
theorem dL_law_593 : decode code 593 = .ok (.iadd, 1) := by decide +kernel
theorem dL_law_594 : decode code 594 = .ok (.iaload, 1) := by decide +kernel
theorem dL_law_595 : decode code 595 = .ok (.aload_n 0, 1) := by decide +kernel
theorem dL_law_596 : decode code 596 = .ok (.iload_n 3, 1) := by decide +kernel
theorem dL_law_597 : decode code 597 = .ok (.iconst 2, 1) := by decide +kernel
theorem dL_law_598 : decode code 598 = .ok (.iadd, 1) := by decide +kernel
theorem dL_law_599 : decode code 599 = .ok (.iaload, 1) := by decide +kernel
theorem dL_law_600 : decode code 600 = .ok (.aload_n 0, 1) := by decide +kernel
theorem dL_law_601 : decode code 601 = .ok (.iload_n 3, 1) := by decide +kernel
theorem dL_law_602 : decode code 602 = .ok (.iconst 3, 1) := by decide +kernel
theorem dL_law_603 : decode code 603 = .ok (.iadd, 1) := by decide +kernel
theorem dL_law_604 : decode code 604 = .ok (.iaload, 1) := by decide +kernel
theorem dL_law_605 : decode code 605 = .ok (.invokevirtual 59, 3) := by decide +kernel
theorem dL_law_608 : decode code 608 = .ok (.aload_n 2, 1) := by decide +kernel
theorem dL_law_609 : decode code 609 = .ok (.aload_n 0, 1) := by decide +kernel
theorem dL_law_610 : decode code 610 = .ok (.iload_n 3, 1) := by decide +kernel
theorem dL_law_611 : decode code 611 = .ok (.iconst 1, 1) := by decide +kernel
theorem dL_law_612 : decode code 612 = .ok (.iadd, 1) := by decide +kernel
theorem dL_law_613 : decode code 613 = .ok (.iaload, 1) := by decide +kernel
theorem dL_law_614 : decode code 614 = .ok (.aload_n 0, 1) := by decide +kernel
theorem dL_law_615 : decode code 615 = .ok (.iload_n 3, 1) := by decide +kernel
theorem dL_law_616 : decode code 616 = .ok (.iconst 2, 1) := by decide +kernel
theorem dL_law_617 : decode code 617 = .ok (.iadd, 1) := by decide +kernel
theorem dL_law_618 : decode code 618 = .ok (.iaload, 1) := by decide +kernel
theorem dL_law_619 : decode code 619 = .ok (.aload_n 0, 1) := by decide +kernel
theorem dL_law_620 : decode code 620 = .ok (.iload_n 3, 1) := by decide +kernel
theorem dL_law_621 : decode code 621 = .ok (.iconst 3, 1) := by decide +kernel
theorem dL_law_622 : decode code 622 = .ok (.iadd, 1) := by decide +kernel
theorem dL_law_623 : decode code 623 = .ok (.iaload, 1) := by decide +kernel
theorem dL_law_624 : decode code 624 = .ok (.invokevirtual 62, 3) := by decide +kernel
theorem dL_law_627 : decode code 627 = .ok (.if_icmp .eq 1140, 3) := by decide +kernel
theorem dL_law_630 : decode code 630 = .ok (.iconst 0, 1) := by decide +kernel
theorem dL_law_631 : decode code 631 = .ok (.ireturn, 1) := by decide +kernel
theorem dL_law_632 : decode code 632 = .ok (.aload_n 1, 1) := by decide +kernel
theorem dL_law_633 : decode code 633 = .ok (.aload_n 0, 1) := by decide +kernel
theorem dL_law_634 : decode code 634 = .ok (.iload_n 3, 1) := by decide +kernel
theorem dL_law_635 : decode code 635 = .ok (.iconst 1, 1) := by decide +kernel
theorem dL_law_636 : decode code 636 = .ok (.iadd, 1) := by decide +kernel
theorem dL_law_637 : decode code 637 = .ok (.iaload, 1) := by decide +kernel
theorem dL_law_638 : decode code 638 = .ok (.aload_n 0, 1) := by decide +kernel
theorem dL_law_639 : decode code 639 = .ok (.iload_n 3, 1) := by decide +kernel
theorem dL_law_640 : decode code 640 = .ok (.iconst 2, 1) := by decide +kernel
theorem dL_law_641 : decode code 641 = .ok (.iadd, 1) := by decide +kernel
theorem dL_law_642 : decode code 642 = .ok (.iaload, 1) := by decide +kernel
theorem dL_law_643 : decode code 643 = .ok (.invokevirtual 63, 3) := by decide +kernel
theorem dL_law_646 : decode code 646 = .ok (.aload_n 2, 1) := by decide +kernel
theorem dL_law_647 : decode code 647 = .ok (.aload_n 0, 1) := by decide +kernel
theorem dL_law_648 : decode code 648 = .ok (.iload_n 3, 1) := by decide +kernel
theorem dL_law_649 : decode code 649 = .ok (.iconst 1, 1) := by decide +kernel
theorem dL_law_650 : decode code 650 = .ok (.iadd, 1) := by decide +kernel
theorem dL_law_651 : decode code 651 = .ok (.iaload, 1) := by decide +kernel
theorem dL_law_652 : decode code 652 = .ok (.aload_n 0, 1) := by decide +kernel
theorem dL_law_653 : decode code 653 = .ok (.iload_n 3, 1) := by decide +kernel
theorem dL_law_654 : decode code 654 = .ok (.iconst 2, 1) := by decide +kernel
theorem dL_law_655 : decode code 655 = .ok (.iadd, 1) := by decide +kernel
theorem dL_law_656 : decode code 656 = .ok (.iaload, 1) := by decide +kernel
theorem dL_law_657 : decode code 657 = .ok (.invokevirtual 67, 3) := by decide +kernel
theorem dL_law_660 : decode code 660 = .ok (.if_icmp .eq 1107, 3) := by decide +kernel
theorem dL_law_663 : decode code 663 = .ok (.iconst 0, 1) := by decide +kernel
theorem dL_law_664 : decode code 664 = .ok (.ireturn, 1) := by decide +kernel
theorem dL_law_665 : decode code 665 = .ok (.aload_n 1, 1) := by decide +kernel
theorem dL_law_666 : decode code 666 = .ok (.aload_n 0, 1) := by decide +kernel
theorem dL_law_667 : decode code 667 = .ok (.iload_n 3, 1) := by decide +kernel
theorem dL_law_668 : decode code 668 = .ok (.iconst 1, 1) := by decide +kernel
theorem dL_law_669 : decode code 669 = .ok (.iadd, 1) := by decide +kernel
theorem dL_law_670 : decode code 670 = .ok (.iaload, 1) := by decide +kernel
theorem dL_law_671 : decode code 671 = .ok (.aload_n 0, 1) := by decide +kernel
theorem dL_law_672 : decode code 672 = .ok (.iload_n 3, 1) := by decide +kernel
theorem dL_law_673 : decode code 673 = .ok (.iconst 2, 1) := by decide +kernel
theorem dL_law_674 : decode code 674 = .ok (.iadd, 1) := by decide +kernel
theorem dL_law_675 : decode code 675 = .ok (.iaload, 1) := by decide +kernel
theorem dL_law_676 : decode code 676 = .ok (.aload_n 0, 1) := by decide +kernel
theorem dL_law_677 : decode code 677 = .ok (.iload_n 3, 1) := by decide +kernel
theorem dL_law_678 : decode code 678 = .ok (.iconst 3, 1) := by decide +kernel
theorem dL_law_679 : decode code 679 = .ok (.iadd, 1) := by decide +kernel
theorem dL_law_680 : decode code 680 = .ok (.iaload, 1) := by decide +kernel
theorem dL_law_681 : decode code 681 = .ok (.invokevirtual 68, 3) := by decide +kernel
theorem dL_law_684 : decode code 684 = .ok (.aload_n 2, 1) := by decide +kernel
theorem dL_law_685 : decode code 685 = .ok (.aload_n 0, 1) := by decide +kernel
theorem dL_law_686 : decode code 686 = .ok (.iload_n 3, 1) := by decide +kernel
theorem dL_law_687 : decode code 687 = .ok (.iconst 1, 1) := by decide +kernel
theorem dL_law_688 : decode code 688 = .ok (.iadd, 1) := by decide +kernel
theorem dL_law_689 : decode code 689 = .ok (.iaload, 1) := by decide +kernel
theorem dL_law_690 : decode code 690 = .ok (.aload_n 0, 1) := by decide +kernel
theorem dL_law_691 : decode code 691 = .ok (.iload_n 3, 1) := by decide +kernel
theorem dL_law_692 : decode code 692 = .ok (.iconst 2, 1) := by decide +kernel
theorem dL_law_693 : decode code 693 = .ok (.iadd, 1) := by decide +kernel
theorem dL_law_694 : decode code 694 = .ok (.iaload, 1) := by decide +kernel
theorem dL_law_695 : decode code 695 = .ok (.aload_n 0, 1) := by decide +kernel
theorem dL_law_696 : decode code 696 = .ok (.iload_n 3, 1) := by decide +kernel
theorem dL_law_697 : decode code 697 = .ok (.iconst 3, 1) := by decide +kernel
theorem dL_law_698 : decode code 698 = .ok (.iadd, 1) := by decide +kernel
theorem dL_law_699 : decode code 699 = .ok (.iaload, 1) := by decide +kernel
theorem dL_law_700 : decode code 700 = .ok (.invokevirtual 71, 3) := by decide +kernel
theorem dL_law_703 : decode code 703 = .ok (.if_icmp .eq 1064, 3) := by decide +kernel
theorem dL_law_706 : decode code 706 = .ok (.iconst 0, 1) := by decide +kernel
theorem dL_law_707 : decode code 707 = .ok (.ireturn, 1) := by decide +kernel
theorem dL_law_708 : decode code 708 = .ok (.aload_n 1, 1) := by decide +kernel
theorem dL_law_709 : decode code 709 = .ok (.aload_n 0, 1) := by decide +kernel
theorem dL_law_710 : decode code 710 = .ok (.iload_n 3, 1) := by decide +kernel
theorem dL_law_711 : decode code 711 = .ok (.iconst 1, 1) := by decide +kernel
theorem dL_law_712 : decode code 712 = .ok (.iadd, 1) := by decide +kernel
theorem dL_law_713 : decode code 713 = .ok (.iaload, 1) := by decide +kernel
theorem dL_law_714 : decode code 714 = .ok (.aload_n 0, 1) := by decide +kernel
theorem dL_law_715 : decode code 715 = .ok (.iload_n 3, 1) := by decide +kernel
theorem dL_law_716 : decode code 716 = .ok (.iconst 2, 1) := by decide +kernel
theorem dL_law_717 : decode code 717 = .ok (.iadd, 1) := by decide +kernel
theorem dL_law_718 : decode code 718 = .ok (.iaload, 1) := by decide +kernel
theorem dL_law_719 : decode code 719 = .ok (.invokevirtual 72, 3) := by decide +kernel
theorem dL_law_722 : decode code 722 = .ok (.aload_n 2, 1) := by decide +kernel
theorem dL_law_723 : decode code 723 = .ok (.aload_n 0, 1) := by decide +kernel
theorem dL_law_724 : decode code 724 = .ok (.iload_n 3, 1) := by decide +kernel
theorem dL_law_725 : decode code 725 = .ok (.iconst 1, 1) := by decide +kernel
theorem dL_law_726 : decode code 726 = .ok (.iadd, 1) := by decide +kernel
theorem dL_law_727 : decode code 727 = .ok (.iaload, 1) := by decide +kernel
theorem dL_law_728 : decode code 728 = .ok (.aload_n 0, 1) := by decide +kernel
theorem dL_law_729 : decode code 729 = .ok (.iload_n 3, 1) := by decide +kernel
theorem dL_law_730 : decode code 730 = .ok (.iconst 2, 1) := by decide +kernel
theorem dL_law_731 : decode code 731 = .ok (.iadd, 1) := by decide +kernel
theorem dL_law_732 : decode code 732 = .ok (.iaload, 1) := by decide +kernel
theorem dL_law_733 : decode code 733 = .ok (.invokevirtual 76, 3) := by decide +kernel
theorem dL_law_736 : decode code 736 = .ok (.lcmp, 1) := by decide +kernel
theorem dL_law_737 : decode code 737 = .ok (.ifCond .eq 1030, 3) := by decide +kernel
theorem dL_law_740 : decode code 740 = .ok (.iconst 0, 1) := by decide +kernel
theorem dL_law_741 : decode code 741 = .ok (.ireturn, 1) := by decide +kernel
theorem dL_law_742 : decode code 742 = .ok (.aload_n 1, 1) := by decide +kernel
theorem dL_law_743 : decode code 743 = .ok (.aload_n 0, 1) := by decide +kernel
theorem dL_law_744 : decode code 744 = .ok (.iload_n 3, 1) := by decide +kernel
theorem dL_law_745 : decode code 745 = .ok (.iconst 1, 1) := by decide +kernel
theorem dL_law_746 : decode code 746 = .ok (.iadd, 1) := by decide +kernel
theorem dL_law_747 : decode code 747 = .ok (.iaload, 1) := by decide +kernel
theorem dL_law_748 : decode code 748 = .ok (.invokevirtual 77, 3) := by decide +kernel
theorem dL_law_751 : decode code 751 = .ok (.aload_n 2, 1) := by decide +kernel
theorem dL_law_752 : decode code 752 = .ok (.aload_n 0, 1) := by decide +kernel
theorem dL_law_753 : decode code 753 = .ok (.iload_n 3, 1) := by decide +kernel
theorem dL_law_754 : decode code 754 = .ok (.iconst 1, 1) := by decide +kernel
theorem dL_law_755 : decode code 755 = .ok (.iadd, 1) := by decide +kernel
theorem dL_law_756 : decode code 756 = .ok (.iaload, 1) := by decide +kernel
theorem dL_law_757 : decode code 757 = .ok (.invokevirtual 80, 3) := by decide +kernel
theorem dL_law_760 : decode code 760 = .ok (.lcmp, 1) := by decide +kernel
theorem dL_law_761 : decode code 761 = .ok (.ifCond .eq 1006, 3) := by decide +kernel
theorem dL_law_764 : decode code 764 = .ok (.iconst 0, 1) := by decide +kernel
theorem dL_law_765 : decode code 765 = .ok (.ireturn, 1) := by decide +kernel
theorem dL_law_766 : decode code 766 = .ok (.aload_n 1, 1) := by decide +kernel
theorem dL_law_767 : decode code 767 = .ok (.aload_n 0, 1) := by decide +kernel
theorem dL_law_768 : decode code 768 = .ok (.iload_n 3, 1) := by decide +kernel
theorem dL_law_769 : decode code 769 = .ok (.iconst 1, 1) := by decide +kernel
theorem dL_law_770 : decode code 770 = .ok (.iadd, 1) := by decide +kernel
theorem dL_law_771 : decode code 771 = .ok (.iaload, 1) := by decide +kernel
theorem dL_law_772 : decode code 772 = .ok (.invokevirtual 81, 3) := by decide +kernel
theorem dL_law_775 : decode code 775 = .ok (.aload_n 2, 1) := by decide +kernel
theorem dL_law_776 : decode code 776 = .ok (.aload_n 0, 1) := by decide +kernel
theorem dL_law_777 : decode code 777 = .ok (.iload_n 3, 1) := by decide +kernel
theorem dL_law_778 : decode code 778 = .ok (.iconst 1, 1) := by decide +kernel
theorem dL_law_779 : decode code 779 = .ok (.iadd, 1) := by decide +kernel
theorem dL_law_780 : decode code 780 = .ok (.iaload, 1) := by decide +kernel
theorem dL_law_781 : decode code 781 = .ok (.invokevirtual 84, 3) := by decide +kernel
theorem dL_law_784 : decode code 784 = .ok (.if_icmp .eq 983, 3) := by decide +kernel
theorem dL_law_787 : decode code 787 = .ok (.iconst 0, 1) := by decide +kernel
theorem dL_law_788 : decode code 788 = .ok (.ireturn, 1) := by decide +kernel
theorem dL_law_789 : decode code 789 = .ok (.aload_n 1, 1) := by decide +kernel
theorem dL_law_790 : decode code 790 = .ok (.aload_n 0, 1) := by decide +kernel
theorem dL_law_791 : decode code 791 = .ok (.iload_n 3, 1) := by decide +kernel
theorem dL_law_792 : decode code 792 = .ok (.iconst 1, 1) := by decide +kernel
theorem dL_law_793 : decode code 793 = .ok (.iadd, 1) := by decide +kernel
theorem dL_law_794 : decode code 794 = .ok (.iaload, 1) := by decide +kernel
theorem dL_law_795 : decode code 795 = .ok (.invokevirtual 85, 3) := by decide +kernel
theorem dL_law_798 : decode code 798 = .ok (.aload_n 2, 1) := by decide +kernel
theorem dL_law_799 : decode code 799 = .ok (.aload_n 0, 1) := by decide +kernel
theorem dL_law_800 : decode code 800 = .ok (.iload_n 3, 1) := by decide +kernel
theorem dL_law_801 : decode code 801 = .ok (.iconst 1, 1) := by decide +kernel
theorem dL_law_802 : decode code 802 = .ok (.iadd, 1) := by decide +kernel
theorem dL_law_803 : decode code 803 = .ok (.iaload, 1) := by decide +kernel
theorem dL_law_804 : decode code 804 = .ok (.invokevirtual 88, 3) := by decide +kernel
theorem dL_law_807 : decode code 807 = .ok (.if_icmp .eq 960, 3) := by decide +kernel
theorem dL_law_810 : decode code 810 = .ok (.iconst 0, 1) := by decide +kernel
theorem dL_law_811 : decode code 811 = .ok (.ireturn, 1) := by decide +kernel
theorem dL_law_812 : decode code 812 = .ok (.aload_n 1, 1) := by decide +kernel
theorem dL_law_813 : decode code 813 = .ok (.aload_n 0, 1) := by decide +kernel
theorem dL_law_814 : decode code 814 = .ok (.iload_n 3, 1) := by decide +kernel
theorem dL_law_815 : decode code 815 = .ok (.iconst 1, 1) := by decide +kernel
theorem dL_law_816 : decode code 816 = .ok (.iadd, 1) := by decide +kernel
theorem dL_law_817 : decode code 817 = .ok (.iaload, 1) := by decide +kernel
theorem dL_law_818 : decode code 818 = .ok (.invokevirtual 89, 3) := by decide +kernel
theorem dL_law_821 : decode code 821 = .ok (.aload_n 2, 1) := by decide +kernel
theorem dL_law_822 : decode code 822 = .ok (.aload_n 0, 1) := by decide +kernel
theorem dL_law_823 : decode code 823 = .ok (.iload_n 3, 1) := by decide +kernel
theorem dL_law_824 : decode code 824 = .ok (.iconst 1, 1) := by decide +kernel
theorem dL_law_825 : decode code 825 = .ok (.iadd, 1) := by decide +kernel
theorem dL_law_826 : decode code 826 = .ok (.iaload, 1) := by decide +kernel
theorem dL_law_827 : decode code 827 = .ok (.invokevirtual 92, 3) := by decide +kernel
theorem dL_law_830 : decode code 830 = .ok (.if_icmp .eq 937, 3) := by decide +kernel
theorem dL_law_833 : decode code 833 = .ok (.iconst 0, 1) := by decide +kernel
theorem dL_law_834 : decode code 834 = .ok (.ireturn, 1) := by decide +kernel
theorem dL_law_835 : decode code 835 = .ok (.aload_n 1, 1) := by decide +kernel
theorem dL_law_836 : decode code 836 = .ok (.aload_n 0, 1) := by decide +kernel
theorem dL_law_837 : decode code 837 = .ok (.iload_n 3, 1) := by decide +kernel
theorem dL_law_838 : decode code 838 = .ok (.iconst 1, 1) := by decide +kernel
theorem dL_law_839 : decode code 839 = .ok (.iadd, 1) := by decide +kernel
theorem dL_law_840 : decode code 840 = .ok (.iaload, 1) := by decide +kernel
theorem dL_law_841 : decode code 841 = .ok (.aload_n 0, 1) := by decide +kernel
theorem dL_law_842 : decode code 842 = .ok (.iload_n 3, 1) := by decide +kernel
theorem dL_law_843 : decode code 843 = .ok (.iconst 2, 1) := by decide +kernel
theorem dL_law_844 : decode code 844 = .ok (.iadd, 1) := by decide +kernel
theorem dL_law_845 : decode code 845 = .ok (.iaload, 1) := by decide +kernel
theorem dL_law_846 : decode code 846 = .ok (.aload_n 0, 1) := by decide +kernel
theorem dL_law_847 : decode code 847 = .ok (.iload_n 3, 1) := by decide +kernel
theorem dL_law_848 : decode code 848 = .ok (.iconst 3, 1) := by decide +kernel
theorem dL_law_849 : decode code 849 = .ok (.iadd, 1) := by decide +kernel
theorem dL_law_850 : decode code 850 = .ok (.iaload, 1) := by decide +kernel
theorem dL_law_851 : decode code 851 = .ok (.invokevirtual 93, 3) := by decide +kernel
theorem dL_law_854 : decode code 854 = .ok (.aload_n 2, 1) := by decide +kernel
theorem dL_law_855 : decode code 855 = .ok (.aload_n 0, 1) := by decide +kernel
theorem dL_law_856 : decode code 856 = .ok (.iload_n 3, 1) := by decide +kernel
theorem dL_law_857 : decode code 857 = .ok (.iconst 1, 1) := by decide +kernel
theorem dL_law_858 : decode code 858 = .ok (.iadd, 1) := by decide +kernel
theorem dL_law_859 : decode code 859 = .ok (.iaload, 1) := by decide +kernel
theorem dL_law_860 : decode code 860 = .ok (.aload_n 0, 1) := by decide +kernel
theorem dL_law_861 : decode code 861 = .ok (.iload_n 3, 1) := by decide +kernel
theorem dL_law_862 : decode code 862 = .ok (.iconst 2, 1) := by decide +kernel
theorem dL_law_863 : decode code 863 = .ok (.iadd, 1) := by decide +kernel
theorem dL_law_864 : decode code 864 = .ok (.iaload, 1) := by decide +kernel
theorem dL_law_865 : decode code 865 = .ok (.aload_n 0, 1) := by decide +kernel
theorem dL_law_866 : decode code 866 = .ok (.iload_n 3, 1) := by decide +kernel
theorem dL_law_867 : decode code 867 = .ok (.iconst 3, 1) := by decide +kernel
theorem dL_law_868 : decode code 868 = .ok (.iadd, 1) := by decide +kernel
theorem dL_law_869 : decode code 869 = .ok (.iaload, 1) := by decide +kernel
theorem dL_law_870 : decode code 870 = .ok (.invokevirtual 96, 3) := by decide +kernel
theorem dL_law_873 : decode code 873 = .ok (.if_icmp .eq 894, 3) := by decide +kernel
theorem dL_law_876 : decode code 876 = .ok (.iconst 0, 1) := by decide +kernel
theorem dL_law_877 : decode code 877 = .ok (.ireturn, 1) := by decide +kernel
theorem dL_law_878 : decode code 878 = .ok (.aload_n 1, 1) := by decide +kernel
theorem dL_law_879 : decode code 879 = .ok (.aload_n 0, 1) := by decide +kernel
theorem dL_law_880 : decode code 880 = .ok (.iload_n 3, 1) := by decide +kernel
theorem dL_law_881 : decode code 881 = .ok (.iconst 1, 1) := by decide +kernel
theorem dL_law_882 : decode code 882 = .ok (.iadd, 1) := by decide +kernel
theorem dL_law_883 : decode code 883 = .ok (.iaload, 1) := by decide +kernel
theorem dL_law_884 : decode code 884 = .ok (.aload_n 0, 1) := by decide +kernel
theorem dL_law_885 : decode code 885 = .ok (.iload_n 3, 1) := by decide +kernel
theorem dL_law_886 : decode code 886 = .ok (.iconst 2, 1) := by decide +kernel
theorem dL_law_887 : decode code 887 = .ok (.iadd, 1) := by decide +kernel
theorem dL_law_888 : decode code 888 = .ok (.iaload, 1) := by decide +kernel
theorem dL_law_889 : decode code 889 = .ok (.aload_n 0, 1) := by decide +kernel
theorem dL_law_890 : decode code 890 = .ok (.iload_n 3, 1) := by decide +kernel
theorem dL_law_891 : decode code 891 = .ok (.iconst 3, 1) := by decide +kernel
theorem dL_law_892 : decode code 892 = .ok (.iadd, 1) := by decide +kernel
theorem dL_law_893 : decode code 893 = .ok (.iaload, 1) := by decide +kernel
theorem dL_law_894 : decode code 894 = .ok (.aload_n 0, 1) := by decide +kernel
theorem dL_law_895 : decode code 895 = .ok (.iload_n 3, 1) := by decide +kernel
theorem dL_law_896 : decode code 896 = .ok (.iconst 4, 1) := by decide +kernel
theorem dL_law_897 : decode code 897 = .ok (.iadd, 1) := by decide +kernel
theorem dL_law_898 : decode code 898 = .ok (.iaload, 1) := by decide +kernel
theorem dL_law_899 : decode code 899 = .ok (.invokevirtual 97, 3) := by decide +kernel
theorem dL_law_902 : decode code 902 = .ok (.aload_n 2, 1) := by decide +kernel
theorem dL_law_903 : decode code 903 = .ok (.aload_n 0, 1) := by decide +kernel
theorem dL_law_904 : decode code 904 = .ok (.iload_n 3, 1) := by decide +kernel
theorem dL_law_905 : decode code 905 = .ok (.iconst 1, 1) := by decide +kernel
theorem dL_law_906 : decode code 906 = .ok (.iadd, 1) := by decide +kernel
theorem dL_law_907 : decode code 907 = .ok (.iaload, 1) := by decide +kernel
theorem dL_law_908 : decode code 908 = .ok (.aload_n 0, 1) := by decide +kernel
theorem dL_law_909 : decode code 909 = .ok (.iload_n 3, 1) := by decide +kernel
theorem dL_law_910 : decode code 910 = .ok (.iconst 2, 1) := by decide +kernel
theorem dL_law_911 : decode code 911 = .ok (.iadd, 1) := by decide +kernel
theorem dL_law_912 : decode code 912 = .ok (.iaload, 1) := by decide +kernel
theorem dL_law_913 : decode code 913 = .ok (.aload_n 0, 1) := by decide +kernel
theorem dL_law_914 : decode code 914 = .ok (.iload_n 3, 1) := by decide +kernel
theorem dL_law_915 : decode code 915 = .ok (.iconst 3, 1) := by decide +kernel
theorem dL_law_916 : decode code 916 = .ok (.iadd, 1) := by decide +kernel
theorem dL_law_917 : decode code 917 = .ok (.iaload, 1) := by decide +kernel
theorem dL_law_918 : decode code 918 = .ok (.aload_n 0, 1) := by decide +kernel
theorem dL_law_919 : decode code 919 = .ok (.iload_n 3, 1) := by decide +kernel
theorem dL_law_920 : decode code 920 = .ok (.iconst 4, 1) := by decide +kernel
theorem dL_law_921 : decode code 921 = .ok (.iadd, 1) := by decide +kernel
theorem dL_law_922 : decode code 922 = .ok (.iaload, 1) := by decide +kernel
theorem dL_law_923 : decode code 923 = .ok (.invokevirtual 100, 3) := by decide +kernel
theorem dL_law_926 : decode code 926 = .ok (.if_icmp .eq 841, 3) := by decide +kernel
theorem dL_law_929 : decode code 929 = .ok (.iconst 0, 1) := by decide +kernel
theorem dL_law_930 : decode code 930 = .ok (.ireturn, 1) := by decide +kernel
theorem dL_law_931 : decode code 931 = .ok (.aload_n 1, 1) := by decide +kernel
theorem dL_law_932 : decode code 932 = .ok (.aload_n 0, 1) := by decide +kernel
theorem dL_law_933 : decode code 933 = .ok (.iload_n 3, 1) := by decide +kernel
theorem dL_law_934 : decode code 934 = .ok (.iconst 1, 1) := by decide +kernel
theorem dL_law_935 : decode code 935 = .ok (.iadd, 1) := by decide +kernel
theorem dL_law_936 : decode code 936 = .ok (.iaload, 1) := by decide +kernel
theorem dL_law_937 : decode code 937 = .ok (.aload_n 0, 1) := by decide +kernel
theorem dL_law_938 : decode code 938 = .ok (.iload_n 3, 1) := by decide +kernel
theorem dL_law_939 : decode code 939 = .ok (.iconst 2, 1) := by decide +kernel
theorem dL_law_940 : decode code 940 = .ok (.iadd, 1) := by decide +kernel
theorem dL_law_941 : decode code 941 = .ok (.iaload, 1) := by decide +kernel
theorem dL_law_942 : decode code 942 = .ok (.aload_n 0, 1) := by decide +kernel
theorem dL_law_943 : decode code 943 = .ok (.iload_n 3, 1) := by decide +kernel
theorem dL_law_944 : decode code 944 = .ok (.iconst 3, 1) := by decide +kernel
theorem dL_law_945 : decode code 945 = .ok (.iadd, 1) := by decide +kernel
theorem dL_law_946 : decode code 946 = .ok (.iaload, 1) := by decide +kernel
theorem dL_law_947 : decode code 947 = .ok (.invokevirtual 101, 3) := by decide +kernel
theorem dL_law_950 : decode code 950 = .ok (.aload_n 2, 1) := by decide +kernel
theorem dL_law_951 : decode code 951 = .ok (.aload_n 0, 1) := by decide +kernel
theorem dL_law_952 : decode code 952 = .ok (.iload_n 3, 1) := by decide +kernel
theorem dL_law_953 : decode code 953 = .ok (.iconst 1, 1) := by decide +kernel
theorem dL_law_954 : decode code 954 = .ok (.iadd, 1) := by decide +kernel
theorem dL_law_955 : decode code 955 = .ok (.iaload, 1) := by decide +kernel
theorem dL_law_956 : decode code 956 = .ok (.aload_n 0, 1) := by decide +kernel
theorem dL_law_957 : decode code 957 = .ok (.iload_n 3, 1) := by decide +kernel
theorem dL_law_958 : decode code 958 = .ok (.iconst 2, 1) := by decide +kernel
theorem dL_law_959 : decode code 959 = .ok (.iadd, 1) := by decide +kernel
theorem dL_law_960 : decode code 960 = .ok (.iaload, 1) := by decide +kernel
theorem dL_law_961 : decode code 961 = .ok (.aload_n 0, 1) := by decide +kernel
theorem dL_law_962 : decode code 962 = .ok (.iload_n 3, 1) := by decide +kernel
theorem dL_law_963 : decode code 963 = .ok (.iconst 3, 1) := by decide +kernel
theorem dL_law_964 : decode code 964 = .ok (.iadd, 1) := by decide +kernel
theorem dL_law_965 : decode code 965 = .ok (.iaload, 1) := by decide +kernel
theorem dL_law_966 : decode code 966 = .ok (.invokevirtual 105, 3) := by decide +kernel
theorem dL_law_969 : decode code 969 = .ok (.lcmp, 1) := by decide +kernel
theorem dL_law_970 : decode code 970 = .ok (.ifCond .eq 797, 3) := by decide +kernel
theorem dL_law_973 : decode code 973 = .ok (.iconst 0, 1) := by decide +kernel
theorem dL_law_974 : decode code 974 = .ok (.ireturn, 1) := by decide +kernel
theorem dL_law_975 : decode code 975 = .ok (.aload_n 1, 1) := by decide +kernel
theorem dL_law_976 : decode code 976 = .ok (.aload_n 0, 1) := by decide +kernel
theorem dL_law_977 : decode code 977 = .ok (.iload_n 3, 1) := by decide +kernel
theorem dL_law_978 : decode code 978 = .ok (.iconst 1, 1) := by decide +kernel
theorem dL_law_979 : decode code 979 = .ok (.iadd, 1) := by decide +kernel
theorem dL_law_980 : decode code 980 = .ok (.iaload, 1) := by decide +kernel
theorem dL_law_981 : decode code 981 = .ok (.aload_n 0, 1) := by decide +kernel
theorem dL_law_982 : decode code 982 = .ok (.iload_n 3, 1) := by decide +kernel
theorem dL_law_983 : decode code 983 = .ok (.iconst 2, 1) := by decide +kernel
theorem dL_law_984 : decode code 984 = .ok (.iadd, 1) := by decide +kernel
theorem dL_law_985 : decode code 985 = .ok (.iaload, 1) := by decide +kernel
theorem dL_law_986 : decode code 986 = .ok (.invokevirtual 106, 3) := by decide +kernel
theorem dL_law_989 : decode code 989 = .ok (.aload_n 2, 1) := by decide +kernel
theorem dL_law_990 : decode code 990 = .ok (.aload_n 0, 1) := by decide +kernel
theorem dL_law_991 : decode code 991 = .ok (.iload_n 3, 1) := by decide +kernel
theorem dL_law_992 : decode code 992 = .ok (.iconst 1, 1) := by decide +kernel
theorem dL_law_993 : decode code 993 = .ok (.iadd, 1) := by decide +kernel
theorem dL_law_994 : decode code 994 = .ok (.iaload, 1) := by decide +kernel
theorem dL_law_995 : decode code 995 = .ok (.aload_n 0, 1) := by decide +kernel
theorem dL_law_996 : decode code 996 = .ok (.iload_n 3, 1) := by decide +kernel
theorem dL_law_997 : decode code 997 = .ok (.iconst 2, 1) := by decide +kernel
theorem dL_law_998 : decode code 998 = .ok (.iadd, 1) := by decide +kernel
theorem dL_law_999 : decode code 999 = .ok (.iaload, 1) := by decide +kernel
theorem dL_law_1000 : decode code 1000 = .ok (.invokevirtual 109, 3) := by decide +kernel
theorem dL_law_1003 : decode code 1003 = .ok (.if_icmp .eq 764, 3) := by decide +kernel
theorem dL_law_1006 : decode code 1006 = .ok (.iconst 0, 1) := by decide +kernel
theorem dL_law_1007 : decode code 1007 = .ok (.ireturn, 1) := by decide +kernel
theorem dL_law_1008 : decode code 1008 = .ok (.aload_n 1, 1) := by decide +kernel
theorem dL_law_1009 : decode code 1009 = .ok (.aload_n 0, 1) := by decide +kernel
theorem dL_law_1010 : decode code 1010 = .ok (.iload_n 3, 1) := by decide +kernel
theorem dL_law_1011 : decode code 1011 = .ok (.iconst 1, 1) := by decide +kernel
theorem dL_law_1012 : decode code 1012 = .ok (.iadd, 1) := by decide +kernel
theorem dL_law_1013 : decode code 1013 = .ok (.iaload, 1) := by decide +kernel
theorem dL_law_1014 : decode code 1014 = .ok (.aload_n 0, 1) := by decide +kernel
theorem dL_law_1015 : decode code 1015 = .ok (.iload_n 3, 1) := by decide +kernel
theorem dL_law_1016 : decode code 1016 = .ok (.iconst 2, 1) := by decide +kernel
theorem dL_law_1017 : decode code 1017 = .ok (.iadd, 1) := by decide +kernel
theorem dL_law_1018 : decode code 1018 = .ok (.iaload, 1) := by decide +kernel
theorem dL_law_1019 : decode code 1019 = .ok (.aload_n 0, 1) := by decide +kernel
theorem dL_law_1020 : decode code 1020 = .ok (.iload_n 3, 1) := by decide +kernel
theorem dL_law_1021 : decode code 1021 = .ok (.iconst 3, 1) := by decide +kernel
theorem dL_law_1022 : decode code 1022 = .ok (.iadd, 1) := by decide +kernel
theorem dL_law_1023 : decode code 1023 = .ok (.iaload, 1) := by decide +kernel
theorem dL_law_1024 : decode code 1024 = .ok (.invokevirtual 110, 3) := by decide +kernel
theorem dL_law_1027 : decode code 1027 = .ok (.aload_n 2, 1) := by decide +kernel
theorem dL_law_1028 : decode code 1028 = .ok (.aload_n 0, 1) := by decide +kernel
theorem dL_law_1029 : decode code 1029 = .ok (.iload_n 3, 1) := by decide +kernel
theorem dL_law_1030 : decode code 1030 = .ok (.iconst 1, 1) := by decide +kernel
theorem dL_law_1031 : decode code 1031 = .ok (.iadd, 1) := by decide +kernel
theorem dL_law_1032 : decode code 1032 = .ok (.iaload, 1) := by decide +kernel
theorem dL_law_1033 : decode code 1033 = .ok (.aload_n 0, 1) := by decide +kernel
theorem dL_law_1034 : decode code 1034 = .ok (.iload_n 3, 1) := by decide +kernel
theorem dL_law_1035 : decode code 1035 = .ok (.iconst 2, 1) := by decide +kernel
theorem dL_law_1036 : decode code 1036 = .ok (.iadd, 1) := by decide +kernel
theorem dL_law_1037 : decode code 1037 = .ok (.iaload, 1) := by decide +kernel
theorem dL_law_1038 : decode code 1038 = .ok (.aload_n 0, 1) := by decide +kernel
theorem dL_law_1039 : decode code 1039 = .ok (.iload_n 3, 1) := by decide +kernel
theorem dL_law_1040 : decode code 1040 = .ok (.iconst 3, 1) := by decide +kernel
theorem dL_law_1041 : decode code 1041 = .ok (.iadd, 1) := by decide +kernel
theorem dL_law_1042 : decode code 1042 = .ok (.iaload, 1) := by decide +kernel
theorem dL_law_1043 : decode code 1043 = .ok (.invokevirtual 113, 3) := by decide +kernel
theorem dL_law_1046 : decode code 1046 = .ok (.if_icmp .eq 721, 3) := by decide +kernel
theorem dL_law_1049 : decode code 1049 = .ok (.iconst 0, 1) := by decide +kernel
theorem dL_law_1050 : decode code 1050 = .ok (.ireturn, 1) := by decide +kernel
theorem dL_law_1051 : decode code 1051 = .ok (.aload_n 1, 1) := by decide +kernel
theorem dL_law_1052 : decode code 1052 = .ok (.aload_n 0, 1) := by decide +kernel
theorem dL_law_1053 : decode code 1053 = .ok (.iload_n 3, 1) := by decide +kernel
theorem dL_law_1054 : decode code 1054 = .ok (.iconst 1, 1) := by decide +kernel
theorem dL_law_1055 : decode code 1055 = .ok (.iadd, 1) := by decide +kernel
theorem dL_law_1056 : decode code 1056 = .ok (.iaload, 1) := by decide +kernel
theorem dL_law_1057 : decode code 1057 = .ok (.aload_n 0, 1) := by decide +kernel
theorem dL_law_1058 : decode code 1058 = .ok (.iload_n 3, 1) := by decide +kernel
theorem dL_law_1059 : decode code 1059 = .ok (.iconst 2, 1) := by decide +kernel
theorem dL_law_1060 : decode code 1060 = .ok (.iadd, 1) := by decide +kernel
theorem dL_law_1061 : decode code 1061 = .ok (.iaload, 1) := by decide +kernel
theorem dL_law_1062 : decode code 1062 = .ok (.invokevirtual 114, 3) := by decide +kernel
theorem dL_law_1065 : decode code 1065 = .ok (.aload_n 2, 1) := by decide +kernel
theorem dL_law_1066 : decode code 1066 = .ok (.aload_n 0, 1) := by decide +kernel
theorem dL_law_1067 : decode code 1067 = .ok (.iload_n 3, 1) := by decide +kernel
theorem dL_law_1068 : decode code 1068 = .ok (.iconst 1, 1) := by decide +kernel
theorem dL_law_1069 : decode code 1069 = .ok (.iadd, 1) := by decide +kernel
theorem dL_law_1070 : decode code 1070 = .ok (.iaload, 1) := by decide +kernel
theorem dL_law_1071 : decode code 1071 = .ok (.aload_n 0, 1) := by decide +kernel
theorem dL_law_1072 : decode code 1072 = .ok (.iload_n 3, 1) := by decide +kernel
theorem dL_law_1073 : decode code 1073 = .ok (.iconst 2, 1) := by decide +kernel
theorem dL_law_1074 : decode code 1074 = .ok (.iadd, 1) := by decide +kernel
theorem dL_law_1075 : decode code 1075 = .ok (.iaload, 1) := by decide +kernel
theorem dL_law_1076 : decode code 1076 = .ok (.invokevirtual 117, 3) := by decide +kernel
theorem dL_law_1079 : decode code 1079 = .ok (.if_icmp .eq 688, 3) := by decide +kernel
theorem dL_law_1082 : decode code 1082 = .ok (.iconst 0, 1) := by decide +kernel
theorem dL_law_1083 : decode code 1083 = .ok (.ireturn, 1) := by decide +kernel
theorem dL_law_1084 : decode code 1084 = .ok (.aload_n 1, 1) := by decide +kernel
theorem dL_law_1085 : decode code 1085 = .ok (.aload_n 0, 1) := by decide +kernel
theorem dL_law_1086 : decode code 1086 = .ok (.iload_n 3, 1) := by decide +kernel
theorem dL_law_1087 : decode code 1087 = .ok (.iconst 1, 1) := by decide +kernel
theorem dL_law_1088 : decode code 1088 = .ok (.iadd, 1) := by decide +kernel
theorem dL_law_1089 : decode code 1089 = .ok (.iaload, 1) := by decide +kernel
theorem dL_law_1090 : decode code 1090 = .ok (.i2l, 1) := by decide +kernel
theorem dL_law_1091 : decode code 1091 = .ok (.bipush 32, 2) := by decide +kernel
theorem dL_law_1093 : decode code 1093 = .ok (.lshl, 1) := by decide +kernel
theorem dL_law_1094 : decode code 1094 = .ok (.aload_n 0, 1) := by decide +kernel
theorem dL_law_1095 : decode code 1095 = .ok (.iload_n 3, 1) := by decide +kernel
theorem dL_law_1096 : decode code 1096 = .ok (.iconst 2, 1) := by decide +kernel
theorem dL_law_1097 : decode code 1097 = .ok (.iadd, 1) := by decide +kernel
theorem dL_law_1098 : decode code 1098 = .ok (.iaload, 1) := by decide +kernel
theorem dL_law_1099 : decode code 1099 = .ok (.i2l, 1) := by decide +kernel
theorem dL_law_1100 : decode code 1100 = .ok (.ldc2_w 13, 3) := by decide +kernel
theorem dL_law_1103 : decode code 1103 = .ok (.land, 1) := by decide +kernel
theorem dL_law_1104 : decode code 1104 = .ok (.lor, 1) := by decide +kernel
theorem dL_law_1105 : decode code 1105 = .ok (.aload_n 0, 1) := by decide +kernel
theorem dL_law_1106 : decode code 1106 = .ok (.iload_n 3, 1) := by decide +kernel
theorem dL_law_1107 : decode code 1107 = .ok (.iconst 3, 1) := by decide +kernel
theorem dL_law_1108 : decode code 1108 = .ok (.iadd, 1) := by decide +kernel
theorem dL_law_1109 : decode code 1109 = .ok (.iaload, 1) := by decide +kernel
theorem dL_law_1110 : decode code 1110 = .ok (.invokevirtual 118, 3) := by decide +kernel
theorem dL_law_1113 : decode code 1113 = .ok (.aload_n 2, 1) := by decide +kernel
theorem dL_law_1114 : decode code 1114 = .ok (.aload_n 0, 1) := by decide +kernel
theorem dL_law_1115 : decode code 1115 = .ok (.iload_n 3, 1) := by decide +kernel
theorem dL_law_1116 : decode code 1116 = .ok (.iconst 1, 1) := by decide +kernel
theorem dL_law_1117 : decode code 1117 = .ok (.iadd, 1) := by decide +kernel
theorem dL_law_1118 : decode code 1118 = .ok (.iaload, 1) := by decide +kernel
theorem dL_law_1119 : decode code 1119 = .ok (.i2l, 1) := by decide +kernel
theorem dL_law_1120 : decode code 1120 = .ok (.bipush 32, 2) := by decide +kernel
theorem dL_law_1122 : decode code 1122 = .ok (.lshl, 1) := by decide +kernel
theorem dL_law_1123 : decode code 1123 = .ok (.aload_n 0, 1) := by decide +kernel
theorem dL_law_1124 : decode code 1124 = .ok (.iload_n 3, 1) := by decide +kernel
theorem dL_law_1125 : decode code 1125 = .ok (.iconst 2, 1) := by decide +kernel
theorem dL_law_1126 : decode code 1126 = .ok (.iadd, 1) := by decide +kernel
theorem dL_law_1127 : decode code 1127 = .ok (.iaload, 1) := by decide +kernel
theorem dL_law_1128 : decode code 1128 = .ok (.i2l, 1) := by decide +kernel
theorem dL_law_1129 : decode code 1129 = .ok (.ldc2_w 13, 3) := by decide +kernel
theorem dL_law_1132 : decode code 1132 = .ok (.land, 1) := by decide +kernel
theorem dL_law_1133 : decode code 1133 = .ok (.lor, 1) := by decide +kernel
theorem dL_law_1134 : decode code 1134 = .ok (.aload_n 0, 1) := by decide +kernel
theorem dL_law_1135 : decode code 1135 = .ok (.iload_n 3, 1) := by decide +kernel
theorem dL_law_1136 : decode code 1136 = .ok (.iconst 3, 1) := by decide +kernel
theorem dL_law_1137 : decode code 1137 = .ok (.iadd, 1) := by decide +kernel
theorem dL_law_1138 : decode code 1138 = .ok (.iaload, 1) := by decide +kernel
theorem dL_law_1139 : decode code 1139 = .ok (.invokevirtual 122, 3) := by decide +kernel
theorem dL_law_1142 : decode code 1142 = .ok (.if_icmp .eq 625, 3) := by decide +kernel
theorem dL_law_1145 : decode code 1145 = .ok (.iconst 0, 1) := by decide +kernel
theorem dL_law_1146 : decode code 1146 = .ok (.ireturn, 1) := by decide +kernel
theorem dL_law_1147 : decode code 1147 = .ok (.aload_n 1, 1) := by decide +kernel
theorem dL_law_1148 : decode code 1148 = .ok (.aload_n 0, 1) := by decide +kernel
theorem dL_law_1149 : decode code 1149 = .ok (.iload_n 3, 1) := by decide +kernel
theorem dL_law_1150 : decode code 1150 = .ok (.iconst 1, 1) := by decide +kernel
theorem dL_law_1151 : decode code 1151 = .ok (.iadd, 1) := by decide +kernel
theorem dL_law_1152 : decode code 1152 = .ok (.iaload, 1) := by decide +kernel
theorem dL_law_1153 : decode code 1153 = .ok (.i2l, 1) := by decide +kernel
theorem dL_law_1154 : decode code 1154 = .ok (.bipush 32, 2) := by decide +kernel
theorem dL_law_1156 : decode code 1156 = .ok (.lshl, 1) := by decide +kernel
theorem dL_law_1157 : decode code 1157 = .ok (.aload_n 0, 1) := by decide +kernel
theorem dL_law_1158 : decode code 1158 = .ok (.iload_n 3, 1) := by decide +kernel
theorem dL_law_1159 : decode code 1159 = .ok (.iconst 2, 1) := by decide +kernel
theorem dL_law_1160 : decode code 1160 = .ok (.iadd, 1) := by decide +kernel
theorem dL_law_1161 : decode code 1161 = .ok (.iaload, 1) := by decide +kernel
theorem dL_law_1162 : decode code 1162 = .ok (.i2l, 1) := by decide +kernel
theorem dL_law_1163 : decode code 1163 = .ok (.ldc2_w 13, 3) := by decide +kernel
theorem dL_law_1166 : decode code 1166 = .ok (.land, 1) := by decide +kernel
theorem dL_law_1167 : decode code 1167 = .ok (.lor, 1) := by decide +kernel
theorem dL_law_1168 : decode code 1168 = .ok (.aload_n 0, 1) := by decide +kernel
theorem dL_law_1169 : decode code 1169 = .ok (.iload_n 3, 1) := by decide +kernel
theorem dL_law_1170 : decode code 1170 = .ok (.iconst 3, 1) := by decide +kernel
theorem dL_law_1171 : decode code 1171 = .ok (.iadd, 1) := by decide +kernel
theorem dL_law_1172 : decode code 1172 = .ok (.iaload, 1) := by decide +kernel
theorem dL_law_1173 : decode code 1173 = .ok (.invokevirtual 123, 3) := by decide +kernel
theorem dL_law_1176 : decode code 1176 = .ok (.aload_n 2, 1) := by decide +kernel
theorem dL_law_1177 : decode code 1177 = .ok (.aload_n 0, 1) := by decide +kernel
theorem dL_law_1178 : decode code 1178 = .ok (.iload_n 3, 1) := by decide +kernel
theorem dL_law_1179 : decode code 1179 = .ok (.iconst 1, 1) := by decide +kernel
theorem dL_law_1180 : decode code 1180 = .ok (.iadd, 1) := by decide +kernel
theorem dL_law_1181 : decode code 1181 = .ok (.iaload, 1) := by decide +kernel
theorem dL_law_1182 : decode code 1182 = .ok (.i2l, 1) := by decide +kernel
theorem dL_law_1183 : decode code 1183 = .ok (.bipush 32, 2) := by decide +kernel
theorem dL_law_1185 : decode code 1185 = .ok (.lshl, 1) := by decide +kernel
theorem dL_law_1186 : decode code 1186 = .ok (.aload_n 0, 1) := by decide +kernel
theorem dL_law_1187 : decode code 1187 = .ok (.iload_n 3, 1) := by decide +kernel
theorem dL_law_1188 : decode code 1188 = .ok (.iconst 2, 1) := by decide +kernel
theorem dL_law_1189 : decode code 1189 = .ok (.iadd, 1) := by decide +kernel
theorem dL_law_1190 : decode code 1190 = .ok (.iaload, 1) := by decide +kernel
theorem dL_law_1191 : decode code 1191 = .ok (.i2l, 1) := by decide +kernel
theorem dL_law_1192 : decode code 1192 = .ok (.ldc2_w 13, 3) := by decide +kernel
theorem dL_law_1195 : decode code 1195 = .ok (.land, 1) := by decide +kernel
theorem dL_law_1196 : decode code 1196 = .ok (.lor, 1) := by decide +kernel
theorem dL_law_1197 : decode code 1197 = .ok (.aload_n 0, 1) := by decide +kernel
theorem dL_law_1198 : decode code 1198 = .ok (.iload_n 3, 1) := by decide +kernel
theorem dL_law_1199 : decode code 1199 = .ok (.iconst 3, 1) := by decide +kernel
theorem dL_law_1200 : decode code 1200 = .ok (.iadd, 1) := by decide +kernel
theorem dL_law_1201 : decode code 1201 = .ok (.iaload, 1) := by decide +kernel
theorem dL_law_1202 : decode code 1202 = .ok (.invokevirtual 126, 3) := by decide +kernel
theorem dL_law_1205 : decode code 1205 = .ok (.if_icmp .eq 562, 3) := by decide +kernel
theorem dL_law_1208 : decode code 1208 = .ok (.iconst 0, 1) := by decide +kernel
theorem dL_law_1209 : decode code 1209 = .ok (.ireturn, 1) := by decide +kernel
theorem dL_law_1210 : decode code 1210 = .ok (.aload_n 1, 1) := by decide +kernel
theorem dL_law_1211 : decode code 1211 = .ok (.aload_n 0, 1) := by decide +kernel
theorem dL_law_1212 : decode code 1212 = .ok (.iload_n 3, 1) := by decide +kernel
theorem dL_law_1213 : decode code 1213 = .ok (.iconst 1, 1) := by decide +kernel
theorem dL_law_1214 : decode code 1214 = .ok (.iadd, 1) := by decide +kernel
theorem dL_law_1215 : decode code 1215 = .ok (.iaload, 1) := by decide +kernel
theorem dL_law_1216 : decode code 1216 = .ok (.i2l, 1) := by decide +kernel
theorem dL_law_1217 : decode code 1217 = .ok (.bipush 32, 2) := by decide +kernel
theorem dL_law_1219 : decode code 1219 = .ok (.lshl, 1) := by decide +kernel
theorem dL_law_1220 : decode code 1220 = .ok (.aload_n 0, 1) := by decide +kernel
theorem dL_law_1221 : decode code 1221 = .ok (.iload_n 3, 1) := by decide +kernel
theorem dL_law_1222 : decode code 1222 = .ok (.iconst 2, 1) := by decide +kernel
theorem dL_law_1223 : decode code 1223 = .ok (.iadd, 1) := by decide +kernel
theorem dL_law_1224 : decode code 1224 = .ok (.iaload, 1) := by decide +kernel
theorem dL_law_1225 : decode code 1225 = .ok (.i2l, 1) := by decide +kernel
theorem dL_law_1226 : decode code 1226 = .ok (.ldc2_w 13, 3) := by decide +kernel
theorem dL_law_1229 : decode code 1229 = .ok (.land, 1) := by decide +kernel
theorem dL_law_1230 : decode code 1230 = .ok (.lor, 1) := by decide +kernel
theorem dL_law_1231 : decode code 1231 = .ok (.aload_n 0, 1) := by decide +kernel
theorem dL_law_1232 : decode code 1232 = .ok (.iload_n 3, 1) := by decide +kernel
theorem dL_law_1233 : decode code 1233 = .ok (.iconst 3, 1) := by decide +kernel
theorem dL_law_1234 : decode code 1234 = .ok (.iadd, 1) := by decide +kernel
theorem dL_law_1235 : decode code 1235 = .ok (.iaload, 1) := by decide +kernel
theorem dL_law_1236 : decode code 1236 = .ok (.aload_n 0, 1) := by decide +kernel
theorem dL_law_1237 : decode code 1237 = .ok (.iload_n 3, 1) := by decide +kernel
theorem dL_law_1238 : decode code 1238 = .ok (.iconst 4, 1) := by decide +kernel
theorem dL_law_1239 : decode code 1239 = .ok (.iadd, 1) := by decide +kernel
theorem dL_law_1240 : decode code 1240 = .ok (.iaload, 1) := by decide +kernel
theorem dL_law_1241 : decode code 1241 = .ok (.invokevirtual 127, 3) := by decide +kernel
theorem dL_law_1244 : decode code 1244 = .ok (.aload_n 2, 1) := by decide +kernel
theorem dL_law_1245 : decode code 1245 = .ok (.aload_n 0, 1) := by decide +kernel
theorem dL_law_1246 : decode code 1246 = .ok (.iload_n 3, 1) := by decide +kernel
theorem dL_law_1247 : decode code 1247 = .ok (.iconst 1, 1) := by decide +kernel
theorem dL_law_1248 : decode code 1248 = .ok (.iadd, 1) := by decide +kernel
theorem dL_law_1249 : decode code 1249 = .ok (.iaload, 1) := by decide +kernel
theorem dL_law_1250 : decode code 1250 = .ok (.i2l, 1) := by decide +kernel
theorem dL_law_1251 : decode code 1251 = .ok (.bipush 32, 2) := by decide +kernel
theorem dL_law_1253 : decode code 1253 = .ok (.lshl, 1) := by decide +kernel
theorem dL_law_1254 : decode code 1254 = .ok (.aload_n 0, 1) := by decide +kernel
theorem dL_law_1255 : decode code 1255 = .ok (.iload_n 3, 1) := by decide +kernel
theorem dL_law_1256 : decode code 1256 = .ok (.iconst 2, 1) := by decide +kernel
theorem dL_law_1257 : decode code 1257 = .ok (.iadd, 1) := by decide +kernel
theorem dL_law_1258 : decode code 1258 = .ok (.iaload, 1) := by decide +kernel
theorem dL_law_1259 : decode code 1259 = .ok (.i2l, 1) := by decide +kernel
theorem dL_law_1260 : decode code 1260 = .ok (.ldc2_w 13, 3) := by decide +kernel
theorem dL_law_1263 : decode code 1263 = .ok (.land, 1) := by decide +kernel
theorem dL_law_1264 : decode code 1264 = .ok (.lor, 1) := by decide +kernel
theorem dL_law_1265 : decode code 1265 = .ok (.aload_n 0, 1) := by decide +kernel
theorem dL_law_1266 : decode code 1266 = .ok (.iload_n 3, 1) := by decide +kernel
theorem dL_law_1267 : decode code 1267 = .ok (.iconst 3, 1) := by decide +kernel
theorem dL_law_1268 : decode code 1268 = .ok (.iadd, 1) := by decide +kernel
theorem dL_law_1269 : decode code 1269 = .ok (.iaload, 1) := by decide +kernel
theorem dL_law_1270 : decode code 1270 = .ok (.aload_n 0, 1) := by decide +kernel
theorem dL_law_1271 : decode code 1271 = .ok (.iload_n 3, 1) := by decide +kernel
theorem dL_law_1272 : decode code 1272 = .ok (.iconst 4, 1) := by decide +kernel
theorem dL_law_1273 : decode code 1273 = .ok (.iadd, 1) := by decide +kernel
theorem dL_law_1274 : decode code 1274 = .ok (.iaload, 1) := by decide +kernel
theorem dL_law_1275 : decode code 1275 = .ok (.invokevirtual 131, 3) := by decide +kernel
theorem dL_law_1278 : decode code 1278 = .ok (.if_icmp .eq 489, 3) := by decide +kernel
theorem dL_law_1281 : decode code 1281 = .ok (.iconst 0, 1) := by decide +kernel
theorem dL_law_1282 : decode code 1282 = .ok (.ireturn, 1) := by decide +kernel
theorem dL_law_1283 : decode code 1283 = .ok (.aload_n 1, 1) := by decide +kernel
theorem dL_law_1284 : decode code 1284 = .ok (.aload_n 0, 1) := by decide +kernel
theorem dL_law_1285 : decode code 1285 = .ok (.iload_n 3, 1) := by decide +kernel
theorem dL_law_1286 : decode code 1286 = .ok (.iconst 1, 1) := by decide +kernel
theorem dL_law_1287 : decode code 1287 = .ok (.iadd, 1) := by decide +kernel
theorem dL_law_1288 : decode code 1288 = .ok (.iaload, 1) := by decide +kernel
theorem dL_law_1289 : decode code 1289 = .ok (.aload_n 0, 1) := by decide +kernel
theorem dL_law_1290 : decode code 1290 = .ok (.iload_n 3, 1) := by decide +kernel
theorem dL_law_1291 : decode code 1291 = .ok (.iconst 2, 1) := by decide +kernel
theorem dL_law_1292 : decode code 1292 = .ok (.iadd, 1) := by decide +kernel
theorem dL_law_1293 : decode code 1293 = .ok (.iaload, 1) := by decide +kernel
theorem dL_law_1294 : decode code 1294 = .ok (.invokevirtual 132, 3) := by decide +kernel
theorem dL_law_1297 : decode code 1297 = .ok (.aload_n 2, 1) := by decide +kernel
theorem dL_law_1298 : decode code 1298 = .ok (.aload_n 0, 1) := by decide +kernel
theorem dL_law_1299 : decode code 1299 = .ok (.iload_n 3, 1) := by decide +kernel
theorem dL_law_1300 : decode code 1300 = .ok (.iconst 1, 1) := by decide +kernel
theorem dL_law_1301 : decode code 1301 = .ok (.iadd, 1) := by decide +kernel
theorem dL_law_1302 : decode code 1302 = .ok (.iaload, 1) := by decide +kernel
theorem dL_law_1303 : decode code 1303 = .ok (.aload_n 0, 1) := by decide +kernel
theorem dL_law_1304 : decode code 1304 = .ok (.iload_n 3, 1) := by decide +kernel
theorem dL_law_1305 : decode code 1305 = .ok (.iconst 2, 1) := by decide +kernel
theorem dL_law_1306 : decode code 1306 = .ok (.iadd, 1) := by decide +kernel
theorem dL_law_1307 : decode code 1307 = .ok (.iaload, 1) := by decide +kernel
theorem dL_law_1308 : decode code 1308 = .ok (.invokevirtual 135, 3) := by decide +kernel
theorem dL_law_1311 : decode code 1311 = .ok (.if_icmp .eq 456, 3) := by decide +kernel
theorem dL_law_1314 : decode code 1314 = .ok (.iconst 0, 1) := by decide +kernel
theorem dL_law_1315 : decode code 1315 = .ok (.ireturn, 1) := by decide +kernel
theorem dL_law_1316 : decode code 1316 = .ok (.aload_n 1, 1) := by decide +kernel
theorem dL_law_1317 : decode code 1317 = .ok (.aload_n 0, 1) := by decide +kernel
theorem dL_law_1318 : decode code 1318 = .ok (.iload_n 3, 1) := by decide +kernel
theorem dL_law_1319 : decode code 1319 = .ok (.iconst 1, 1) := by decide +kernel
theorem dL_law_1320 : decode code 1320 = .ok (.iadd, 1) := by decide +kernel
theorem dL_law_1321 : decode code 1321 = .ok (.iaload, 1) := by decide +kernel
theorem dL_law_1322 : decode code 1322 = .ok (.invokevirtual 136, 3) := by decide +kernel
theorem dL_law_1325 : decode code 1325 = .ok (.aload_n 2, 1) := by decide +kernel
theorem dL_law_1326 : decode code 1326 = .ok (.aload_n 0, 1) := by decide +kernel
theorem dL_law_1327 : decode code 1327 = .ok (.iload_n 3, 1) := by decide +kernel
theorem dL_law_1328 : decode code 1328 = .ok (.iconst 1, 1) := by decide +kernel
theorem dL_law_1329 : decode code 1329 = .ok (.iadd, 1) := by decide +kernel
theorem dL_law_1330 : decode code 1330 = .ok (.iaload, 1) := by decide +kernel
theorem dL_law_1331 : decode code 1331 = .ok (.invokevirtual 139, 3) := by decide +kernel
theorem dL_law_1334 : decode code 1334 = .ok (.lcmp, 1) := by decide +kernel
theorem dL_law_1335 : decode code 1335 = .ok (.ifCond .eq 432, 3) := by decide +kernel
theorem dL_law_1338 : decode code 1338 = .ok (.iconst 0, 1) := by decide +kernel
theorem dL_law_1339 : decode code 1339 = .ok (.ireturn, 1) := by decide +kernel
theorem dL_law_1340 : decode code 1340 = .ok (.aload_n 1, 1) := by decide +kernel
theorem dL_law_1341 : decode code 1341 = .ok (.aload_n 0, 1) := by decide +kernel
theorem dL_law_1342 : decode code 1342 = .ok (.iload_n 3, 1) := by decide +kernel
theorem dL_law_1343 : decode code 1343 = .ok (.iconst 1, 1) := by decide +kernel
theorem dL_law_1344 : decode code 1344 = .ok (.iadd, 1) := by decide +kernel
theorem dL_law_1345 : decode code 1345 = .ok (.iaload, 1) := by decide +kernel
theorem dL_law_1346 : decode code 1346 = .ok (.aload_n 0, 1) := by decide +kernel
theorem dL_law_1347 : decode code 1347 = .ok (.iload_n 3, 1) := by decide +kernel
theorem dL_law_1348 : decode code 1348 = .ok (.iconst 2, 1) := by decide +kernel
theorem dL_law_1349 : decode code 1349 = .ok (.iadd, 1) := by decide +kernel
theorem dL_law_1350 : decode code 1350 = .ok (.iaload, 1) := by decide +kernel
theorem dL_law_1351 : decode code 1351 = .ok (.invokevirtual 140, 3) := by decide +kernel
theorem dL_law_1354 : decode code 1354 = .ok (.aload_n 2, 1) := by decide +kernel
theorem dL_law_1355 : decode code 1355 = .ok (.aload_n 0, 1) := by decide +kernel
theorem dL_law_1356 : decode code 1356 = .ok (.iload_n 3, 1) := by decide +kernel
theorem dL_law_1357 : decode code 1357 = .ok (.iconst 1, 1) := by decide +kernel
theorem dL_law_1358 : decode code 1358 = .ok (.iadd, 1) := by decide +kernel
theorem dL_law_1359 : decode code 1359 = .ok (.iaload, 1) := by decide +kernel
theorem dL_law_1360 : decode code 1360 = .ok (.aload_n 0, 1) := by decide +kernel
theorem dL_law_1361 : decode code 1361 = .ok (.iload_n 3, 1) := by decide +kernel
theorem dL_law_1362 : decode code 1362 = .ok (.iconst 2, 1) := by decide +kernel
theorem dL_law_1363 : decode code 1363 = .ok (.iadd, 1) := by decide +kernel
theorem dL_law_1364 : decode code 1364 = .ok (.iaload, 1) := by decide +kernel
theorem dL_law_1365 : decode code 1365 = .ok (.invokevirtual 143, 3) := by decide +kernel
theorem dL_law_1368 : decode code 1368 = .ok (.if_icmp .eq 399, 3) := by decide +kernel
theorem dL_law_1371 : decode code 1371 = .ok (.iconst 0, 1) := by decide +kernel
theorem dL_law_1372 : decode code 1372 = .ok (.ireturn, 1) := by decide +kernel
theorem dL_law_1373 : decode code 1373 = .ok (.aload_n 1, 1) := by decide +kernel
theorem dL_law_1374 : decode code 1374 = .ok (.aload_n 0, 1) := by decide +kernel
theorem dL_law_1375 : decode code 1375 = .ok (.iload_n 3, 1) := by decide +kernel
theorem dL_law_1376 : decode code 1376 = .ok (.iconst 1, 1) := by decide +kernel
theorem dL_law_1377 : decode code 1377 = .ok (.iadd, 1) := by decide +kernel
theorem dL_law_1378 : decode code 1378 = .ok (.iaload, 1) := by decide +kernel
theorem dL_law_1379 : decode code 1379 = .ok (.aload_n 0, 1) := by decide +kernel
theorem dL_law_1380 : decode code 1380 = .ok (.iload_n 3, 1) := by decide +kernel
theorem dL_law_1381 : decode code 1381 = .ok (.iconst 2, 1) := by decide +kernel
theorem dL_law_1382 : decode code 1382 = .ok (.iadd, 1) := by decide +kernel
theorem dL_law_1383 : decode code 1383 = .ok (.iaload, 1) := by decide +kernel
theorem dL_law_1384 : decode code 1384 = .ok (.invokevirtual 144, 3) := by decide +kernel
theorem dL_law_1387 : decode code 1387 = .ok (.aload_n 2, 1) := by decide +kernel
theorem dL_law_1388 : decode code 1388 = .ok (.aload_n 0, 1) := by decide +kernel
theorem dL_law_1389 : decode code 1389 = .ok (.iload_n 3, 1) := by decide +kernel
theorem dL_law_1390 : decode code 1390 = .ok (.iconst 1, 1) := by decide +kernel
theorem dL_law_1391 : decode code 1391 = .ok (.iadd, 1) := by decide +kernel
theorem dL_law_1392 : decode code 1392 = .ok (.iaload, 1) := by decide +kernel
theorem dL_law_1393 : decode code 1393 = .ok (.aload_n 0, 1) := by decide +kernel
theorem dL_law_1394 : decode code 1394 = .ok (.iload_n 3, 1) := by decide +kernel
theorem dL_law_1395 : decode code 1395 = .ok (.iconst 2, 1) := by decide +kernel
theorem dL_law_1396 : decode code 1396 = .ok (.iadd, 1) := by decide +kernel
theorem dL_law_1397 : decode code 1397 = .ok (.iaload, 1) := by decide +kernel
theorem dL_law_1398 : decode code 1398 = .ok (.invokevirtual 147, 3) := by decide +kernel
theorem dL_law_1401 : decode code 1401 = .ok (.if_icmp .eq 366, 3) := by decide +kernel
theorem dL_law_1404 : decode code 1404 = .ok (.iconst 0, 1) := by decide +kernel
theorem dL_law_1405 : decode code 1405 = .ok (.ireturn, 1) := by decide +kernel
theorem dL_law_1406 : decode code 1406 = .ok (.aload_n 1, 1) := by decide +kernel
theorem dL_law_1407 : decode code 1407 = .ok (.aload_n 0, 1) := by decide +kernel
theorem dL_law_1408 : decode code 1408 = .ok (.iload_n 3, 1) := by decide +kernel
theorem dL_law_1409 : decode code 1409 = .ok (.iconst 1, 1) := by decide +kernel
theorem dL_law_1410 : decode code 1410 = .ok (.iadd, 1) := by decide +kernel
theorem dL_law_1411 : decode code 1411 = .ok (.iaload, 1) := by decide +kernel
theorem dL_law_1412 : decode code 1412 = .ok (.aload_n 0, 1) := by decide +kernel
theorem dL_law_1413 : decode code 1413 = .ok (.iload_n 3, 1) := by decide +kernel
theorem dL_law_1414 : decode code 1414 = .ok (.iconst 2, 1) := by decide +kernel
theorem dL_law_1415 : decode code 1415 = .ok (.iadd, 1) := by decide +kernel
theorem dL_law_1416 : decode code 1416 = .ok (.iaload, 1) := by decide +kernel
theorem dL_law_1417 : decode code 1417 = .ok (.invokevirtual 148, 3) := by decide +kernel
theorem dL_law_1420 : decode code 1420 = .ok (.aload_n 2, 1) := by decide +kernel
theorem dL_law_1421 : decode code 1421 = .ok (.aload_n 0, 1) := by decide +kernel
theorem dL_law_1422 : decode code 1422 = .ok (.iload_n 3, 1) := by decide +kernel
theorem dL_law_1423 : decode code 1423 = .ok (.iconst 1, 1) := by decide +kernel
theorem dL_law_1424 : decode code 1424 = .ok (.iadd, 1) := by decide +kernel
theorem dL_law_1425 : decode code 1425 = .ok (.iaload, 1) := by decide +kernel
theorem dL_law_1426 : decode code 1426 = .ok (.aload_n 0, 1) := by decide +kernel
theorem dL_law_1427 : decode code 1427 = .ok (.iload_n 3, 1) := by decide +kernel
theorem dL_law_1428 : decode code 1428 = .ok (.iconst 2, 1) := by decide +kernel
theorem dL_law_1429 : decode code 1429 = .ok (.iadd, 1) := by decide +kernel
theorem dL_law_1430 : decode code 1430 = .ok (.iaload, 1) := by decide +kernel
theorem dL_law_1431 : decode code 1431 = .ok (.invokevirtual 151, 3) := by decide +kernel
theorem dL_law_1434 : decode code 1434 = .ok (.if_icmp .eq 333, 3) := by decide +kernel
theorem dL_law_1437 : decode code 1437 = .ok (.iconst 0, 1) := by decide +kernel
theorem dL_law_1438 : decode code 1438 = .ok (.ireturn, 1) := by decide +kernel
theorem dL_law_1439 : decode code 1439 = .ok (.aload_n 1, 1) := by decide +kernel
theorem dL_law_1440 : decode code 1440 = .ok (.aload_n 0, 1) := by decide +kernel
theorem dL_law_1441 : decode code 1441 = .ok (.iload_n 3, 1) := by decide +kernel
theorem dL_law_1442 : decode code 1442 = .ok (.iconst 1, 1) := by decide +kernel
theorem dL_law_1443 : decode code 1443 = .ok (.iadd, 1) := by decide +kernel
theorem dL_law_1444 : decode code 1444 = .ok (.iaload, 1) := by decide +kernel
theorem dL_law_1445 : decode code 1445 = .ok (.invokevirtual 152, 3) := by decide +kernel
theorem dL_law_1448 : decode code 1448 = .ok (.aload_n 2, 1) := by decide +kernel
theorem dL_law_1449 : decode code 1449 = .ok (.aload_n 0, 1) := by decide +kernel
theorem dL_law_1450 : decode code 1450 = .ok (.iload_n 3, 1) := by decide +kernel
theorem dL_law_1451 : decode code 1451 = .ok (.iconst 1, 1) := by decide +kernel
theorem dL_law_1452 : decode code 1452 = .ok (.iadd, 1) := by decide +kernel
theorem dL_law_1453 : decode code 1453 = .ok (.iaload, 1) := by decide +kernel
theorem dL_law_1454 : decode code 1454 = .ok (.invokevirtual 155, 3) := by decide +kernel
theorem dL_law_1457 : decode code 1457 = .ok (.if_icmp .eq 310, 3) := by decide +kernel
theorem dL_law_1460 : decode code 1460 = .ok (.iconst 0, 1) := by decide +kernel
theorem dL_law_1461 : decode code 1461 = .ok (.ireturn, 1) := by decide +kernel
theorem dL_law_1462 : decode code 1462 = .ok (.aload_n 1, 1) := by decide +kernel
theorem dL_law_1463 : decode code 1463 = .ok (.aload_n 0, 1) := by decide +kernel
theorem dL_law_1464 : decode code 1464 = .ok (.iload_n 3, 1) := by decide +kernel
theorem dL_law_1465 : decode code 1465 = .ok (.iconst 1, 1) := by decide +kernel
theorem dL_law_1466 : decode code 1466 = .ok (.iadd, 1) := by decide +kernel
theorem dL_law_1467 : decode code 1467 = .ok (.iaload, 1) := by decide +kernel
theorem dL_law_1468 : decode code 1468 = .ok (.aload_n 0, 1) := by decide +kernel
theorem dL_law_1469 : decode code 1469 = .ok (.iload_n 3, 1) := by decide +kernel
theorem dL_law_1470 : decode code 1470 = .ok (.iconst 2, 1) := by decide +kernel
theorem dL_law_1471 : decode code 1471 = .ok (.iadd, 1) := by decide +kernel
theorem dL_law_1472 : decode code 1472 = .ok (.iaload, 1) := by decide +kernel
theorem dL_law_1473 : decode code 1473 = .ok (.aload_n 0, 1) := by decide +kernel
theorem dL_law_1474 : decode code 1474 = .ok (.iload_n 3, 1) := by decide +kernel
theorem dL_law_1475 : decode code 1475 = .ok (.iconst 3, 1) := by decide +kernel
theorem dL_law_1476 : decode code 1476 = .ok (.iadd, 1) := by decide +kernel
theorem dL_law_1477 : decode code 1477 = .ok (.iaload, 1) := by decide +kernel
theorem dL_law_1478 : decode code 1478 = .ok (.invokevirtual 156, 3) := by decide +kernel
theorem dL_law_1481 : decode code 1481 = .ok (.aload_n 2, 1) := by decide +kernel
theorem dL_law_1482 : decode code 1482 = .ok (.aload_n 0, 1) := by decide +kernel
theorem dL_law_1483 : decode code 1483 = .ok (.iload_n 3, 1) := by decide +kernel
theorem dL_law_1484 : decode code 1484 = .ok (.iconst 1, 1) := by decide +kernel
theorem dL_law_1485 : decode code 1485 = .ok (.iadd, 1) := by decide +kernel
theorem dL_law_1486 : decode code 1486 = .ok (.iaload, 1) := by decide +kernel
theorem dL_law_1487 : decode code 1487 = .ok (.aload_n 0, 1) := by decide +kernel
theorem dL_law_1488 : decode code 1488 = .ok (.iload_n 3, 1) := by decide +kernel
theorem dL_law_1489 : decode code 1489 = .ok (.iconst 2, 1) := by decide +kernel
theorem dL_law_1490 : decode code 1490 = .ok (.iadd, 1) := by decide +kernel
theorem dL_law_1491 : decode code 1491 = .ok (.iaload, 1) := by decide +kernel
theorem dL_law_1492 : decode code 1492 = .ok (.aload_n 0, 1) := by decide +kernel
theorem dL_law_1493 : decode code 1493 = .ok (.iload_n 3, 1) := by decide +kernel
theorem dL_law_1494 : decode code 1494 = .ok (.iconst 3, 1) := by decide +kernel
theorem dL_law_1495 : decode code 1495 = .ok (.iadd, 1) := by decide +kernel
theorem dL_law_1496 : decode code 1496 = .ok (.iaload, 1) := by decide +kernel
theorem dL_law_1497 : decode code 1497 = .ok (.invokevirtual 159, 3) := by decide +kernel
theorem dL_law_1500 : decode code 1500 = .ok (.lcmp, 1) := by decide +kernel
theorem dL_law_1501 : decode code 1501 = .ok (.ifCond .eq 266, 3) := by decide +kernel
theorem dL_law_1504 : decode code 1504 = .ok (.iconst 0, 1) := by decide +kernel
theorem dL_law_1505 : decode code 1505 = .ok (.ireturn, 1) := by decide +kernel
theorem dL_law_1506 : decode code 1506 = .ok (.aload_n 1, 1) := by decide +kernel
theorem dL_law_1507 : decode code 1507 = .ok (.invokevirtual 160, 3) := by decide +kernel
theorem dL_law_1510 : decode code 1510 = .ok (.aload_n 2, 1) := by decide +kernel
theorem dL_law_1511 : decode code 1511 = .ok (.invokevirtual 163, 3) := by decide +kernel
theorem dL_law_1514 : decode code 1514 = .ok (.if_icmp .eq 253, 3) := by decide +kernel
theorem dL_law_1517 : decode code 1517 = .ok (.iconst 0, 1) := by decide +kernel
theorem dL_law_1518 : decode code 1518 = .ok (.ireturn, 1) := by decide +kernel
theorem dL_law_1519 : decode code 1519 = .ok (.aload_n 1, 1) := by decide +kernel
theorem dL_law_1520 : decode code 1520 = .ok (.invokevirtual 164, 3) := by decide +kernel
theorem dL_law_1523 : decode code 1523 = .ok (.aload_n 2, 1) := by decide +kernel
theorem dL_law_1524 : decode code 1524 = .ok (.invokevirtual 167, 3) := by decide +kernel
theorem dL_law_1527 : decode code 1527 = .ok (.if_icmp .eq 240, 3) := by decide +kernel
theorem dL_law_1530 : decode code 1530 = .ok (.iconst 0, 1) := by decide +kernel
theorem dL_law_1531 : decode code 1531 = .ok (.ireturn, 1) := by decide +kernel
theorem dL_law_1532 : decode code 1532 = .ok (.aload_n 1, 1) := by decide +kernel
theorem dL_law_1533 : decode code 1533 = .ok (.aload_n 0, 1) := by decide +kernel
theorem dL_law_1534 : decode code 1534 = .ok (.iload_n 3, 1) := by decide +kernel
theorem dL_law_1535 : decode code 1535 = .ok (.iconst 1, 1) := by decide +kernel
theorem dL_law_1536 : decode code 1536 = .ok (.iadd, 1) := by decide +kernel
theorem dL_law_1537 : decode code 1537 = .ok (.iaload, 1) := by decide +kernel
theorem dL_law_1538 : decode code 1538 = .ok (.aload_n 0, 1) := by decide +kernel
theorem dL_law_1539 : decode code 1539 = .ok (.iload_n 3, 1) := by decide +kernel
theorem dL_law_1540 : decode code 1540 = .ok (.iconst 2, 1) := by decide +kernel
theorem dL_law_1541 : decode code 1541 = .ok (.iadd, 1) := by decide +kernel
theorem dL_law_1542 : decode code 1542 = .ok (.iaload, 1) := by decide +kernel
theorem dL_law_1543 : decode code 1543 = .ok (.aload_n 0, 1) := by decide +kernel
theorem dL_law_1544 : decode code 1544 = .ok (.iload_n 3, 1) := by decide +kernel
theorem dL_law_1545 : decode code 1545 = .ok (.iconst 3, 1) := by decide +kernel
theorem dL_law_1546 : decode code 1546 = .ok (.iadd, 1) := by decide +kernel
theorem dL_law_1547 : decode code 1547 = .ok (.iaload, 1) := by decide +kernel
theorem dL_law_1548 : decode code 1548 = .ok (.invokevirtual 168, 3) := by decide +kernel
theorem dL_law_1551 : decode code 1551 = .ok (.aload_n 2, 1) := by decide +kernel
theorem dL_law_1552 : decode code 1552 = .ok (.aload_n 0, 1) := by decide +kernel
theorem dL_law_1553 : decode code 1553 = .ok (.iload_n 3, 1) := by decide +kernel
theorem dL_law_1554 : decode code 1554 = .ok (.iconst 1, 1) := by decide +kernel
theorem dL_law_1555 : decode code 1555 = .ok (.iadd, 1) := by decide +kernel
theorem dL_law_1556 : decode code 1556 = .ok (.iaload, 1) := by decide +kernel
theorem dL_law_1557 : decode code 1557 = .ok (.aload_n 0, 1) := by decide +kernel
theorem dL_law_1558 : decode code 1558 = .ok (.iload_n 3, 1) := by decide +kernel
theorem dL_law_1559 : decode code 1559 = .ok (.iconst 2, 1) := by decide +kernel
theorem dL_law_1560 : decode code 1560 = .ok (.iadd, 1) := by decide +kernel
theorem dL_law_1561 : decode code 1561 = .ok (.iaload, 1) := by decide +kernel
theorem dL_law_1562 : decode code 1562 = .ok (.aload_n 0, 1) := by decide +kernel
theorem dL_law_1563 : decode code 1563 = .ok (.iload_n 3, 1) := by decide +kernel
theorem dL_law_1564 : decode code 1564 = .ok (.iconst 3, 1) := by decide +kernel
theorem dL_law_1565 : decode code 1565 = .ok (.iadd, 1) := by decide +kernel
theorem dL_law_1566 : decode code 1566 = .ok (.iaload, 1) := by decide +kernel
theorem dL_law_1567 : decode code 1567 = .ok (.invokevirtual 171, 3) := by decide +kernel
theorem dL_law_1570 : decode code 1570 = .ok (.if_icmp .eq 197, 3) := by decide +kernel
theorem dL_law_1573 : decode code 1573 = .ok (.iconst 0, 1) := by decide +kernel
theorem dL_law_1574 : decode code 1574 = .ok (.ireturn, 1) := by decide +kernel
theorem dL_law_1575 : decode code 1575 = .ok (.aload_n 1, 1) := by decide +kernel
theorem dL_law_1576 : decode code 1576 = .ok (.aload_n 0, 1) := by decide +kernel
theorem dL_law_1577 : decode code 1577 = .ok (.iload_n 3, 1) := by decide +kernel
theorem dL_law_1578 : decode code 1578 = .ok (.iconst 1, 1) := by decide +kernel
theorem dL_law_1579 : decode code 1579 = .ok (.iadd, 1) := by decide +kernel
theorem dL_law_1580 : decode code 1580 = .ok (.iaload, 1) := by decide +kernel
theorem dL_law_1581 : decode code 1581 = .ok (.aload_n 0, 1) := by decide +kernel
theorem dL_law_1582 : decode code 1582 = .ok (.iload_n 3, 1) := by decide +kernel
theorem dL_law_1583 : decode code 1583 = .ok (.iconst 2, 1) := by decide +kernel
theorem dL_law_1584 : decode code 1584 = .ok (.iadd, 1) := by decide +kernel
theorem dL_law_1585 : decode code 1585 = .ok (.iaload, 1) := by decide +kernel
theorem dL_law_1586 : decode code 1586 = .ok (.aload_n 0, 1) := by decide +kernel
theorem dL_law_1587 : decode code 1587 = .ok (.iload_n 3, 1) := by decide +kernel
theorem dL_law_1588 : decode code 1588 = .ok (.iconst 3, 1) := by decide +kernel
theorem dL_law_1589 : decode code 1589 = .ok (.iadd, 1) := by decide +kernel
theorem dL_law_1590 : decode code 1590 = .ok (.iaload, 1) := by decide +kernel
theorem dL_law_1591 : decode code 1591 = .ok (.invokevirtual 172, 3) := by decide +kernel
theorem dL_law_1594 : decode code 1594 = .ok (.aload_n 2, 1) := by decide +kernel
theorem dL_law_1595 : decode code 1595 = .ok (.aload_n 0, 1) := by decide +kernel
theorem dL_law_1596 : decode code 1596 = .ok (.iload_n 3, 1) := by decide +kernel
theorem dL_law_1597 : decode code 1597 = .ok (.iconst 1, 1) := by decide +kernel
theorem dL_law_1598 : decode code 1598 = .ok (.iadd, 1) := by decide +kernel
theorem dL_law_1599 : decode code 1599 = .ok (.iaload, 1) := by decide +kernel
theorem dL_law_1600 : decode code 1600 = .ok (.aload_n 0, 1) := by decide +kernel
theorem dL_law_1601 : decode code 1601 = .ok (.iload_n 3, 1) := by decide +kernel
theorem dL_law_1602 : decode code 1602 = .ok (.iconst 2, 1) := by decide +kernel
theorem dL_law_1603 : decode code 1603 = .ok (.iadd, 1) := by decide +kernel
theorem dL_law_1604 : decode code 1604 = .ok (.iaload, 1) := by decide +kernel
theorem dL_law_1605 : decode code 1605 = .ok (.aload_n 0, 1) := by decide +kernel
theorem dL_law_1606 : decode code 1606 = .ok (.iload_n 3, 1) := by decide +kernel
theorem dL_law_1607 : decode code 1607 = .ok (.iconst 3, 1) := by decide +kernel
theorem dL_law_1608 : decode code 1608 = .ok (.iadd, 1) := by decide +kernel
theorem dL_law_1609 : decode code 1609 = .ok (.iaload, 1) := by decide +kernel
theorem dL_law_1610 : decode code 1610 = .ok (.invokevirtual 175, 3) := by decide +kernel
theorem dL_law_1613 : decode code 1613 = .ok (.if_icmp .eq 154, 3) := by decide +kernel
theorem dL_law_1616 : decode code 1616 = .ok (.iconst 0, 1) := by decide +kernel
theorem dL_law_1617 : decode code 1617 = .ok (.ireturn, 1) := by decide +kernel
theorem dL_law_1618 : decode code 1618 = .ok (.aload_n 1, 1) := by decide +kernel
theorem dL_law_1619 : decode code 1619 = .ok (.aload_n 0, 1) := by decide +kernel
theorem dL_law_1620 : decode code 1620 = .ok (.iload_n 3, 1) := by decide +kernel
theorem dL_law_1621 : decode code 1621 = .ok (.iconst 1, 1) := by decide +kernel
theorem dL_law_1622 : decode code 1622 = .ok (.iadd, 1) := by decide +kernel
theorem dL_law_1623 : decode code 1623 = .ok (.iaload, 1) := by decide +kernel
theorem dL_law_1624 : decode code 1624 = .ok (.aload_n 0, 1) := by decide +kernel
theorem dL_law_1625 : decode code 1625 = .ok (.iload_n 3, 1) := by decide +kernel
theorem dL_law_1626 : decode code 1626 = .ok (.iconst 2, 1) := by decide +kernel
theorem dL_law_1627 : decode code 1627 = .ok (.iadd, 1) := by decide +kernel
theorem dL_law_1628 : decode code 1628 = .ok (.iaload, 1) := by decide +kernel
theorem dL_law_1629 : decode code 1629 = .ok (.aload_n 0, 1) := by decide +kernel
theorem dL_law_1630 : decode code 1630 = .ok (.iload_n 3, 1) := by decide +kernel
theorem dL_law_1631 : decode code 1631 = .ok (.iconst 3, 1) := by decide +kernel
theorem dL_law_1632 : decode code 1632 = .ok (.iadd, 1) := by decide +kernel
theorem dL_law_1633 : decode code 1633 = .ok (.iaload, 1) := by decide +kernel
theorem dL_law_1634 : decode code 1634 = .ok (.aload_n 0, 1) := by decide +kernel
theorem dL_law_1635 : decode code 1635 = .ok (.iload_n 3, 1) := by decide +kernel
theorem dL_law_1636 : decode code 1636 = .ok (.iconst 4, 1) := by decide +kernel
theorem dL_law_1637 : decode code 1637 = .ok (.iadd, 1) := by decide +kernel
theorem dL_law_1638 : decode code 1638 = .ok (.iaload, 1) := by decide +kernel
theorem dL_law_1639 : decode code 1639 = .ok (.aload_n 0, 1) := by decide +kernel
theorem dL_law_1640 : decode code 1640 = .ok (.iload_n 3, 1) := by decide +kernel
theorem dL_law_1641 : decode code 1641 = .ok (.iconst 5, 1) := by decide +kernel
theorem dL_law_1642 : decode code 1642 = .ok (.iadd, 1) := by decide +kernel
theorem dL_law_1643 : decode code 1643 = .ok (.iaload, 1) := by decide +kernel
theorem dL_law_1644 : decode code 1644 = .ok (.invokevirtual 176, 3) := by decide +kernel
theorem dL_law_1647 : decode code 1647 = .ok (.aload_n 2, 1) := by decide +kernel
theorem dL_law_1648 : decode code 1648 = .ok (.aload_n 0, 1) := by decide +kernel
theorem dL_law_1649 : decode code 1649 = .ok (.iload_n 3, 1) := by decide +kernel
theorem dL_law_1650 : decode code 1650 = .ok (.iconst 1, 1) := by decide +kernel
theorem dL_law_1651 : decode code 1651 = .ok (.iadd, 1) := by decide +kernel
theorem dL_law_1652 : decode code 1652 = .ok (.iaload, 1) := by decide +kernel
theorem dL_law_1653 : decode code 1653 = .ok (.aload_n 0, 1) := by decide +kernel
theorem dL_law_1654 : decode code 1654 = .ok (.iload_n 3, 1) := by decide +kernel
theorem dL_law_1655 : decode code 1655 = .ok (.iconst 2, 1) := by decide +kernel
theorem dL_law_1656 : decode code 1656 = .ok (.iadd, 1) := by decide +kernel
theorem dL_law_1657 : decode code 1657 = .ok (.iaload, 1) := by decide +kernel
theorem dL_law_1658 : decode code 1658 = .ok (.aload_n 0, 1) := by decide +kernel
theorem dL_law_1659 : decode code 1659 = .ok (.iload_n 3, 1) := by decide +kernel
theorem dL_law_1660 : decode code 1660 = .ok (.iconst 3, 1) := by decide +kernel
theorem dL_law_1661 : decode code 1661 = .ok (.iadd, 1) := by decide +kernel
theorem dL_law_1662 : decode code 1662 = .ok (.iaload, 1) := by decide +kernel
theorem dL_law_1663 : decode code 1663 = .ok (.aload_n 0, 1) := by decide +kernel
theorem dL_law_1664 : decode code 1664 = .ok (.iload_n 3, 1) := by decide +kernel
theorem dL_law_1665 : decode code 1665 = .ok (.iconst 4, 1) := by decide +kernel
theorem dL_law_1666 : decode code 1666 = .ok (.iadd, 1) := by decide +kernel
theorem dL_law_1667 : decode code 1667 = .ok (.iaload, 1) := by decide +kernel
theorem dL_law_1668 : decode code 1668 = .ok (.aload_n 0, 1) := by decide +kernel
theorem dL_law_1669 : decode code 1669 = .ok (.iload_n 3, 1) := by decide +kernel
theorem dL_law_1670 : decode code 1670 = .ok (.iconst 5, 1) := by decide +kernel
theorem dL_law_1671 : decode code 1671 = .ok (.iadd, 1) := by decide +kernel
theorem dL_law_1672 : decode code 1672 = .ok (.iaload, 1) := by decide +kernel
theorem dL_law_1673 : decode code 1673 = .ok (.invokevirtual 179, 3) := by decide +kernel
theorem dL_law_1676 : decode code 1676 = .ok (.if_icmp .eq 91, 3) := by decide +kernel
theorem dL_law_1679 : decode code 1679 = .ok (.iconst 0, 1) := by decide +kernel
theorem dL_law_1680 : decode code 1680 = .ok (.ireturn, 1) := by decide +kernel
theorem dL_law_1681 : decode code 1681 = .ok (.aload_n 1, 1) := by decide +kernel
theorem dL_law_1682 : decode code 1682 = .ok (.aload_n 0, 1) := by decide +kernel
theorem dL_law_1683 : decode code 1683 = .ok (.iload_n 3, 1) := by decide +kernel
theorem dL_law_1684 : decode code 1684 = .ok (.iconst 1, 1) := by decide +kernel
theorem dL_law_1685 : decode code 1685 = .ok (.iadd, 1) := by decide +kernel
theorem dL_law_1686 : decode code 1686 = .ok (.iaload, 1) := by decide +kernel
theorem dL_law_1687 : decode code 1687 = .ok (.aload_n 0, 1) := by decide +kernel
theorem dL_law_1688 : decode code 1688 = .ok (.iload_n 3, 1) := by decide +kernel
theorem dL_law_1689 : decode code 1689 = .ok (.iconst 2, 1) := by decide +kernel
theorem dL_law_1690 : decode code 1690 = .ok (.iadd, 1) := by decide +kernel
theorem dL_law_1691 : decode code 1691 = .ok (.iaload, 1) := by decide +kernel
theorem dL_law_1692 : decode code 1692 = .ok (.aload_n 0, 1) := by decide +kernel
theorem dL_law_1693 : decode code 1693 = .ok (.iload_n 3, 1) := by decide +kernel
theorem dL_law_1694 : decode code 1694 = .ok (.iconst 3, 1) := by decide +kernel
theorem dL_law_1695 : decode code 1695 = .ok (.iadd, 1) := by decide +kernel
theorem dL_law_1696 : decode code 1696 = .ok (.iaload, 1) := by decide +kernel
theorem dL_law_1697 : decode code 1697 = .ok (.aload_n 0, 1) := by decide +kernel
theorem dL_law_1698 : decode code 1698 = .ok (.iload_n 3, 1) := by decide +kernel
theorem dL_law_1699 : decode code 1699 = .ok (.iconst 4, 1) := by decide +kernel
theorem dL_law_1700 : decode code 1700 = .ok (.iadd, 1) := by decide +kernel
theorem dL_law_1701 : decode code 1701 = .ok (.iaload, 1) := by decide +kernel
theorem dL_law_1702 : decode code 1702 = .ok (.invokevirtual 180, 3) := by decide +kernel
theorem dL_law_1705 : decode code 1705 = .ok (.aload_n 2, 1) := by decide +kernel
theorem dL_law_1706 : decode code 1706 = .ok (.aload_n 0, 1) := by decide +kernel
theorem dL_law_1707 : decode code 1707 = .ok (.iload_n 3, 1) := by decide +kernel
theorem dL_law_1708 : decode code 1708 = .ok (.iconst 1, 1) := by decide +kernel
theorem dL_law_1709 : decode code 1709 = .ok (.iadd, 1) := by decide +kernel
theorem dL_law_1710 : decode code 1710 = .ok (.iaload, 1) := by decide +kernel
theorem dL_law_1711 : decode code 1711 = .ok (.aload_n 0, 1) := by decide +kernel
theorem dL_law_1712 : decode code 1712 = .ok (.iload_n 3, 1) := by decide +kernel
theorem dL_law_1713 : decode code 1713 = .ok (.iconst 2, 1) := by decide +kernel
theorem dL_law_1714 : decode code 1714 = .ok (.iadd, 1) := by decide +kernel
theorem dL_law_1715 : decode code 1715 = .ok (.iaload, 1) := by decide +kernel
theorem dL_law_1716 : decode code 1716 = .ok (.aload_n 0, 1) := by decide +kernel
theorem dL_law_1717 : decode code 1717 = .ok (.iload_n 3, 1) := by decide +kernel
theorem dL_law_1718 : decode code 1718 = .ok (.iconst 3, 1) := by decide +kernel
theorem dL_law_1719 : decode code 1719 = .ok (.iadd, 1) := by decide +kernel
theorem dL_law_1720 : decode code 1720 = .ok (.iaload, 1) := by decide +kernel
theorem dL_law_1721 : decode code 1721 = .ok (.aload_n 0, 1) := by decide +kernel
theorem dL_law_1722 : decode code 1722 = .ok (.iload_n 3, 1) := by decide +kernel
theorem dL_law_1723 : decode code 1723 = .ok (.iconst 4, 1) := by decide +kernel
theorem dL_law_1724 : decode code 1724 = .ok (.iadd, 1) := by decide +kernel
theorem dL_law_1725 : decode code 1725 = .ok (.iaload, 1) := by decide +kernel
theorem dL_law_1726 : decode code 1726 = .ok (.invokevirtual 183, 3) := by decide +kernel
theorem dL_law_1729 : decode code 1729 = .ok (.if_icmp .eq 38, 3) := by decide +kernel
theorem dL_law_1732 : decode code 1732 = .ok (.iconst 0, 1) := by decide +kernel
theorem dL_law_1733 : decode code 1733 = .ok (.ireturn, 1) := by decide +kernel
theorem dL_law_1734 : decode code 1734 = .ok (.aload_n 1, 1) := by decide +kernel
theorem dL_law_1735 : decode code 1735 = .ok (.aload_n 0, 1) := by decide +kernel
theorem dL_law_1736 : decode code 1736 = .ok (.iload_n 3, 1) := by decide +kernel
theorem dL_law_1737 : decode code 1737 = .ok (.iconst 1, 1) := by decide +kernel
theorem dL_law_1738 : decode code 1738 = .ok (.iadd, 1) := by decide +kernel
theorem dL_law_1739 : decode code 1739 = .ok (.iaload, 1) := by decide +kernel
theorem dL_law_1740 : decode code 1740 = .ok (.aload_n 0, 1) := by decide +kernel
theorem dL_law_1741 : decode code 1741 = .ok (.iload_n 3, 1) := by decide +kernel
theorem dL_law_1742 : decode code 1742 = .ok (.iconst 2, 1) := by decide +kernel
theorem dL_law_1743 : decode code 1743 = .ok (.iadd, 1) := by decide +kernel
theorem dL_law_1744 : decode code 1744 = .ok (.iaload, 1) := by decide +kernel
theorem dL_law_1745 : decode code 1745 = .ok (.invokevirtual 184, 3) := by decide +kernel
theorem dL_law_1748 : decode code 1748 = .ok (.aload_n 2, 1) := by decide +kernel
theorem dL_law_1749 : decode code 1749 = .ok (.aload_n 0, 1) := by decide +kernel
theorem dL_law_1750 : decode code 1750 = .ok (.iload_n 3, 1) := by decide +kernel
theorem dL_law_1751 : decode code 1751 = .ok (.iconst 1, 1) := by decide +kernel
theorem dL_law_1752 : decode code 1752 = .ok (.iadd, 1) := by decide +kernel
theorem dL_law_1753 : decode code 1753 = .ok (.iaload, 1) := by decide +kernel
theorem dL_law_1754 : decode code 1754 = .ok (.aload_n 0, 1) := by decide +kernel
theorem dL_law_1755 : decode code 1755 = .ok (.iload_n 3, 1) := by decide +kernel
theorem dL_law_1756 : decode code 1756 = .ok (.iconst 2, 1) := by decide +kernel
theorem dL_law_1757 : decode code 1757 = .ok (.iadd, 1) := by decide +kernel
theorem dL_law_1758 : decode code 1758 = .ok (.iaload, 1) := by decide +kernel
theorem dL_law_1759 : decode code 1759 = .ok (.invokevirtual 187, 3) := by decide +kernel
theorem dL_law_1762 : decode code 1762 = .ok (.if_icmp .eq 5, 3) := by decide +kernel
theorem dL_law_1765 : decode code 1765 = .ok (.iconst 0, 1) := by decide +kernel
theorem dL_law_1766 : decode code 1766 = .ok (.ireturn, 1) := by decide +kernel
theorem dL_law_1767 : decode code 1767 = .ok (.iinc 3 7, 3) := by decide +kernel
theorem dL_law_1770 : decode code 1770 = .ok (.goto (-1752), 3) := by decide +kernel
theorem dL_law_1773 : decode code 1773 = .ok (.iconst 1, 1) := by decide +kernel
theorem dL_law_1774 : decode code 1774 = .ok (.ireturn, 1) := by decide +kernel
