theorem dX6_init_0 : decode cX6_init 0 = .ok (.aload_n 0, 1) := by decide +kernel
theorem dX6_init_1 : decode cX6_init 1 = .ok (.invokespecial 1, 3) := by decide +kernel
theorem dX6_init_4 : decode cX6_init 4 = .ok (.aload_n 0, 1) := by decide +kernel
theorem dX6_init_5 : decode cX6_init 5 = .ok (.sipush 315, 3) := by decide +kernel
theorem dX6_init_8 : decode cX6_init 8 = .ok (.newarray .int, 2) := by decide +kernel
theorem dX6_init_10 : decode cX6_init 10 = .ok (.putfield 7, 3) := by decide +kernel
theorem dX6_init_13 : decode cX6_init 13 = .ok (.aload_n 0, 1) := by decide +kernel
theorem dX6_init_14 : decode cX6_init 14 = .ok (.iconst 4, 1) := by decide +kernel
theorem dX6_init_15 : decode cX6_init 15 = .ok (.putfield 13, 3) := by decide +kernel
theorem dX6_init_18 : decode cX6_init 18 = .ok (.aload_n 0, 1) := by decide +kernel
theorem dX6_init_19 : decode cX6_init 19 = .ok (.bipush 10, 2) := by decide +kernel
theorem dX6_init_21 : decode cX6_init 21 = .ok (.newarray .int, 2) := by decide +kernel
theorem dX6_init_23 : decode cX6_init 23 = .ok (.putfield 17, 3) := by decide +kernel
theorem dX6_init_26 : decode cX6_init 26 = .ok (.aload_n 0, 1) := by decide +kernel
theorem dX6_init_27 : decode cX6_init 27 = .ok (.iconst 4, 1) := by decide +kernel
theorem dX6_init_28 : decode cX6_init 28 = .ok (.newarray .int, 2) := by decide +kernel
theorem dX6_init_30 : decode cX6_init 30 = .ok (.putfield 20, 3) := by decide +kernel
theorem dX6_init_33 : decode cX6_init 33 = .ok (.aload_n 0, 1) := by decide +kernel
theorem dX6_init_34 : decode cX6_init 34 = .ok (.bipush 63, 2) := by decide +kernel
theorem dX6_init_36 : decode cX6_init 36 = .ok (.newarray .int, 2) := by decide +kernel
theorem dX6_init_38 : decode cX6_init 38 = .ok (.putfield 23, 3) := by decide +kernel
theorem dX6_init_41 : decode cX6_init 41 = .ok (.aload_n 0, 1) := by decide +kernel
theorem dX6_init_42 : decode cX6_init 42 = .ok (.bipush 10, 2) := by decide +kernel
theorem dX6_init_44 : decode cX6_init 44 = .ok (.newarray .int, 2) := by decide +kernel
theorem dX6_init_46 : decode cX6_init 46 = .ok (.putfield 26, 3) := by decide +kernel
theorem dX6_init_49 : decode cX6_init 49 = .ok (.aload_n 0, 1) := by decide +kernel
theorem dX6_init_50 : decode cX6_init 50 = .ok (.iconst 4, 1) := by decide +kernel
theorem dX6_init_51 : decode cX6_init 51 = .ok (.newarray .int, 2) := by decide +kernel
theorem dX6_init_53 : decode cX6_init 53 = .ok (.putfield 29, 3) := by decide +kernel
theorem dX6_init_56 : decode cX6_init 56 = .ok (.aload_n 0, 1) := by decide +kernel
theorem dX6_init_57 : decode cX6_init 57 = .ok (.sipush 160, 3) := by decide +kernel
theorem dX6_init_60 : decode cX6_init 60 = .ok (.newarray .int, 2) := by decide +kernel
theorem dX6_init_62 : decode cX6_init 62 = .ok (.putfield 32, 3) := by decide +kernel
theorem dX6_init_65 : decode cX6_init 65 = .ok (.aload_n 0, 1) := by decide +kernel
theorem dX6_init_66 : decode cX6_init 66 = .ok (.bipush 10, 2) := by decide +kernel
theorem dX6_init_68 : decode cX6_init 68 = .ok (.newarray .int, 2) := by decide +kernel
theorem dX6_init_70 : decode cX6_init 70 = .ok (.dup, 1) := by decide +kernel
theorem dX6_init_71 : decode cX6_init 71 = .ok (.iconst 0, 1) := by decide +kernel
theorem dX6_init_72 : decode cX6_init 72 = .ok (.iconst 0, 1) := by decide +kernel
theorem dX6_init_73 : decode cX6_init 73 = .ok (.iastore, 1) := by decide +kernel
theorem dX6_init_74 : decode cX6_init 74 = .ok (.dup, 1) := by decide +kernel
theorem dX6_init_75 : decode cX6_init 75 = .ok (.iconst 1, 1) := by decide +kernel
theorem dX6_init_76 : decode cX6_init 76 = .ok (.iconst 5, 1) := by decide +kernel
theorem dX6_init_77 : decode cX6_init 77 = .ok (.iastore, 1) := by decide +kernel
theorem dX6_init_78 : decode cX6_init 78 = .ok (.dup, 1) := by decide +kernel
theorem dX6_init_79 : decode cX6_init 79 = .ok (.iconst 2, 1) := by decide +kernel
theorem dX6_init_80 : decode cX6_init 80 = .ok (.bipush 9, 2) := by decide +kernel
theorem dX6_init_82 : decode cX6_init 82 = .ok (.iastore, 1) := by decide +kernel
theorem dX6_init_83 : decode cX6_init 83 = .ok (.dup, 1) := by decide +kernel
theorem dX6_init_84 : decode cX6_init 84 = .ok (.iconst 3, 1) := by decide +kernel
theorem dX6_init_85 : decode cX6_init 85 = .ok (.bipush 15, 2) := by decide +kernel
theorem dX6_init_87 : decode cX6_init 87 = .ok (.iastore, 1) := by decide +kernel
theorem dX6_init_88 : decode cX6_init 88 = .ok (.dup, 1) := by decide +kernel
theorem dX6_init_89 : decode cX6_init 89 = .ok (.iconst 4, 1) := by decide +kernel
theorem dX6_init_90 : decode cX6_init 90 = .ok (.bipush 23, 2) := by decide +kernel
theorem dX6_init_92 : decode cX6_init 92 = .ok (.iastore, 1) := by decide +kernel
theorem dX6_init_93 : decode cX6_init 93 = .ok (.dup, 1) := by decide +kernel
theorem dX6_init_94 : decode cX6_init 94 = .ok (.iconst 5, 1) := by decide +kernel
theorem dX6_init_95 : decode cX6_init 95 = .ok (.bipush 28, 2) := by decide +kernel
theorem dX6_init_97 : decode cX6_init 97 = .ok (.iastore, 1) := by decide +kernel
theorem dX6_init_98 : decode cX6_init 98 = .ok (.dup, 1) := by decide +kernel
theorem dX6_init_99 : decode cX6_init 99 = .ok (.bipush 6, 2) := by decide +kernel
theorem dX6_init_101 : decode cX6_init 101 = .ok (.bipush 33, 2) := by decide +kernel
theorem dX6_init_103 : decode cX6_init 103 = .ok (.iastore, 1) := by decide +kernel
theorem dX6_init_104 : decode cX6_init 104 = .ok (.dup, 1) := by decide +kernel
theorem dX6_init_105 : decode cX6_init 105 = .ok (.bipush 7, 2) := by decide +kernel
theorem dX6_init_107 : decode cX6_init 107 = .ok (.bipush 37, 2) := by decide +kernel
theorem dX6_init_109 : decode cX6_init 109 = .ok (.iastore, 1) := by decide +kernel
theorem dX6_init_110 : decode cX6_init 110 = .ok (.dup, 1) := by decide +kernel
theorem dX6_init_111 : decode cX6_init 111 = .ok (.bipush 8, 2) := by decide +kernel
theorem dX6_init_113 : decode cX6_init 113 = .ok (.bipush 43, 2) := by decide +kernel
theorem dX6_init_115 : decode cX6_init 115 = .ok (.iastore, 1) := by decide +kernel
theorem dX6_init_116 : decode cX6_init 116 = .ok (.dup, 1) := by decide +kernel
theorem dX6_init_117 : decode cX6_init 117 = .ok (.bipush 9, 2) := by decide +kernel
theorem dX6_init_119 : decode cX6_init 119 = .ok (.bipush 48, 2) := by decide +kernel
theorem dX6_init_121 : decode cX6_init 121 = .ok (.iastore, 1) := by decide +kernel
theorem dX6_init_122 : decode cX6_init 122 = .ok (.putfield 35, 3) := by decide +kernel
theorem dX6_init_125 : decode cX6_init 125 = .ok (.aload_n 0, 1) := by decide +kernel
theorem dX6_init_126 : decode cX6_init 126 = .ok (.bipush 48, 2) := by decide +kernel
theorem dX6_init_128 : decode cX6_init 128 = .ok (.newarray .int, 2) := by decide +kernel
theorem dX6_init_130 : decode cX6_init 130 = .ok (.dup, 1) := by decide +kernel
theorem dX6_init_131 : decode cX6_init 131 = .ok (.iconst 0, 1) := by decide +kernel
theorem dX6_init_132 : decode cX6_init 132 = .ok (.bipush 112, 2) := by decide +kernel
theorem dX6_init_134 : decode cX6_init 134 = .ok (.iastore, 1) := by decide +kernel
theorem dX6_init_135 : decode cX6_init 135 = .ok (.dup, 1) := by decide +kernel
theorem dX6_init_136 : decode cX6_init 136 = .ok (.iconst 1, 1) := by decide +kernel
theorem dX6_init_137 : decode cX6_init 137 = .ok (.bipush 108, 2) := by decide +kernel
theorem dX6_init_139 : decode cX6_init 139 = .ok (.iastore, 1) := by decide +kernel
theorem dX6_init_140 : decode cX6_init 140 = .ok (.dup, 1) := by decide +kernel
theorem dX6_init_141 : decode cX6_init 141 = .ok (.iconst 2, 1) := by decide +kernel
theorem dX6_init_142 : decode cX6_init 142 = .ok (.bipush 97, 2) := by decide +kernel
theorem dX6_init_144 : decode cX6_init 144 = .ok (.iastore, 1) := by decide +kernel
theorem dX6_init_145 : decode cX6_init 145 = .ok (.dup, 1) := by decide +kernel
theorem dX6_init_146 : decode cX6_init 146 = .ok (.iconst 3, 1) := by decide +kernel
theorem dX6_init_147 : decode cX6_init 147 = .ok (.bipush 105, 2) := by decide +kernel
theorem dX6_init_149 : decode cX6_init 149 = .ok (.iastore, 1) := by decide +kernel
theorem dX6_init_150 : decode cX6_init 150 = .ok (.dup, 1) := by decide +kernel
theorem dX6_init_151 : decode cX6_init 151 = .ok (.iconst 4, 1) := by decide +kernel
theorem dX6_init_152 : decode cX6_init 152 = .ok (.bipush 110, 2) := by decide +kernel
theorem dX6_init_154 : decode cX6_init 154 = .ok (.iastore, 1) := by decide +kernel
theorem dX6_init_155 : decode cX6_init 155 = .ok (.dup, 1) := by decide +kernel
theorem dX6_init_156 : decode cX6_init 156 = .ok (.iconst 5, 1) := by decide +kernel
theorem dX6_init_157 : decode cX6_init 157 = .ok (.bipush 116, 2) := by decide +kernel
theorem dX6_init_159 : decode cX6_init 159 = .ok (.iastore, 1) := by decide +kernel
theorem dX6_init_160 : decode cX6_init 160 = .ok (.dup, 1) := by decide +kernel
theorem dX6_init_161 : decode cX6_init 161 = .ok (.bipush 6, 2) := by decide +kernel
theorem dX6_init_163 : decode cX6_init 163 = .ok (.bipush 119, 2) := by decide +kernel
theorem dX6_init_165 : decode cX6_init 165 = .ok (.iastore, 1) := by decide +kernel
theorem dX6_init_166 : decode cX6_init 166 = .ok (.dup, 1) := by decide +kernel
theorem dX6_init_167 : decode cX6_init 167 = .ok (.bipush 7, 2) := by decide +kernel
theorem dX6_init_169 : decode cX6_init 169 = .ok (.bipush 105, 2) := by decide +kernel
theorem dX6_init_171 : decode cX6_init 171 = .ok (.iastore, 1) := by decide +kernel
theorem dX6_init_172 : decode cX6_init 172 = .ok (.dup, 1) := by decide +kernel
theorem dX6_init_173 : decode cX6_init 173 = .ok (.bipush 8, 2) := by decide +kernel
theorem dX6_init_175 : decode cX6_init 175 = .ok (.bipush 110, 2) := by decide +kernel
theorem dX6_init_177 : decode cX6_init 177 = .ok (.iastore, 1) := by decide +kernel
theorem dX6_init_178 : decode cX6_init 178 = .ok (.dup, 1) := by decide +kernel
theorem dX6_init_179 : decode cX6_init 179 = .ok (.bipush 9, 2) := by decide +kernel
theorem dX6_init_181 : decode cX6_init 181 = .ok (.bipush 115, 2) := by decide +kernel
theorem dX6_init_183 : decode cX6_init 183 = .ok (.iastore, 1) := by decide +kernel
theorem dX6_init_184 : decode cX6_init 184 = .ok (.dup, 1) := by decide +kernel
theorem dX6_init_185 : decode cX6_init 185 = .ok (.bipush 10, 2) := by decide +kernel
theorem dX6_init_187 : decode cX6_init 187 = .ok (.bipush 104, 2) := by decide +kernel
theorem dX6_init_189 : decode cX6_init 189 = .ok (.iastore, 1) := by decide +kernel
theorem dX6_init_190 : decode cX6_init 190 = .ok (.dup, 1) := by decide +kernel
theorem dX6_init_191 : decode cX6_init 191 = .ok (.bipush 11, 2) := by decide +kernel
theorem dX6_init_193 : decode cX6_init 193 = .ok (.bipush 97, 2) := by decide +kernel
theorem dX6_init_195 : decode cX6_init 195 = .ok (.iastore, 1) := by decide +kernel
theorem dX6_init_196 : decode cX6_init 196 = .ok (.dup, 1) := by decide +kernel
theorem dX6_init_197 : decode cX6_init 197 = .ok (.bipush 12, 2) := by decide +kernel
theorem dX6_init_199 : decode cX6_init 199 = .ok (.bipush 100, 2) := by decide +kernel
theorem dX6_init_201 : decode cX6_init 201 = .ok (.iastore, 1) := by decide +kernel
theorem dX6_init_202 : decode cX6_init 202 = .ok (.dup, 1) := by decide +kernel
theorem dX6_init_203 : decode cX6_init 203 = .ok (.bipush 13, 2) := by decide +kernel
theorem dX6_init_205 : decode cX6_init 205 = .ok (.bipush 111, 2) := by decide +kernel
theorem dX6_init_207 : decode cX6_init 207 = .ok (.iastore, 1) := by decide +kernel
theorem dX6_init_208 : decode cX6_init 208 = .ok (.dup, 1) := by decide +kernel
theorem dX6_init_209 : decode cX6_init 209 = .ok (.bipush 14, 2) := by decide +kernel
theorem dX6_init_211 : decode cX6_init 211 = .ok (.bipush 119, 2) := by decide +kernel
theorem dX6_init_213 : decode cX6_init 213 = .ok (.iastore, 1) := by decide +kernel
theorem dX6_init_214 : decode cX6_init 214 = .ok (.dup, 1) := by decide +kernel
theorem dX6_init_215 : decode cX6_init 215 = .ok (.bipush 15, 2) := by decide +kernel
theorem dX6_init_217 : decode cX6_init 217 = .ok (.bipush 115, 2) := by decide +kernel
theorem dX6_init_219 : decode cX6_init 219 = .ok (.iastore, 1) := by decide +kernel
theorem dX6_init_220 : decode cX6_init 220 = .ok (.dup, 1) := by decide +kernel
theorem dX6_init_221 : decode cX6_init 221 = .ok (.bipush 16, 2) := by decide +kernel
theorem dX6_init_223 : decode cX6_init 223 = .ok (.bipush 116, 2) := by decide +kernel
theorem dX6_init_225 : decode cX6_init 225 = .ok (.iastore, 1) := by decide +kernel
theorem dX6_init_226 : decode cX6_init 226 = .ok (.dup, 1) := by decide +kernel
theorem dX6_init_227 : decode cX6_init 227 = .ok (.bipush 17, 2) := by decide +kernel
theorem dX6_init_229 : decode cX6_init 229 = .ok (.bipush 114, 2) := by decide +kernel
theorem dX6_init_231 : decode cX6_init 231 = .ok (.iastore, 1) := by decide +kernel
theorem dX6_init_232 : decode cX6_init 232 = .ok (.dup, 1) := by decide +kernel
theorem dX6_init_233 : decode cX6_init 233 = .ok (.bipush 18, 2) := by decide +kernel
theorem dX6_init_235 : decode cX6_init 235 = .ok (.bipush 97, 2) := by decide +kernel
theorem dX6_init_237 : decode cX6_init 237 = .ok (.iastore, 1) := by decide +kernel
theorem dX6_init_238 : decode cX6_init 238 = .ok (.dup, 1) := by decide +kernel
theorem dX6_init_239 : decode cX6_init 239 = .ok (.bipush 19, 2) := by decide +kernel
theorem dX6_init_241 : decode cX6_init 241 = .ok (.bipush 110, 2) := by decide +kernel
theorem dX6_init_243 : decode cX6_init 243 = .ok (.iastore, 1) := by decide +kernel
theorem dX6_init_244 : decode cX6_init 244 = .ok (.dup, 1) := by decide +kernel
theorem dX6_init_245 : decode cX6_init 245 = .ok (.bipush 20, 2) := by decide +kernel
theorem dX6_init_247 : decode cX6_init 247 = .ok (.bipush 103, 2) := by decide +kernel
theorem dX6_init_249 : decode cX6_init 249 = .ok (.iastore, 1) := by decide +kernel
theorem dX6_init_250 : decode cX6_init 250 = .ok (.dup, 1) := by decide +kernel
theorem dX6_init_251 : decode cX6_init 251 = .ok (.bipush 21, 2) := by decide +kernel
theorem dX6_init_253 : decode cX6_init 253 = .ok (.bipush 101, 2) := by decide +kernel
theorem dX6_init_255 : decode cX6_init 255 = .ok (.iastore, 1) := by decide +kernel
theorem dX6_init_256 : decode cX6_init 256 = .ok (.dup, 1) := by decide +kernel
theorem dX6_init_257 : decode cX6_init 257 = .ok (.bipush 22, 2) := by decide +kernel
theorem dX6_init_259 : decode cX6_init 259 = .ok (.bipush 114, 2) := by decide +kernel
theorem dX6_init_261 : decode cX6_init 261 = .ok (.iastore, 1) := by decide +kernel
theorem dX6_init_262 : decode cX6_init 262 = .ok (.dup, 1) := by decide +kernel
theorem dX6_init_263 : decode cX6_init 263 = .ok (.bipush 23, 2) := by decide +kernel
theorem dX6_init_265 : decode cX6_init 265 = .ok (.bipush 112, 2) := by decide +kernel
theorem dX6_init_267 : decode cX6_init 267 = .ok (.iastore, 1) := by decide +kernel
theorem dX6_init_268 : decode cX6_init 268 = .ok (.dup, 1) := by decide +kernel
theorem dX6_init_269 : decode cX6_init 269 = .ok (.bipush 24, 2) := by decide +kernel
theorem dX6_init_271 : decode cX6_init 271 = .ok (.bipush 97, 2) := by decide +kernel
theorem dX6_init_273 : decode cX6_init 273 = .ok (.iastore, 1) := by decide +kernel
theorem dX6_init_274 : decode cX6_init 274 = .ok (.dup, 1) := by decide +kernel
theorem dX6_init_275 : decode cX6_init 275 = .ok (.bipush 25, 2) := by decide +kernel
theorem dX6_init_277 : decode cX6_init 277 = .ok (.bipush 114, 2) := by decide +kernel
theorem dX6_init_279 : decode cX6_init 279 = .ok (.iastore, 1) := by decide +kernel
theorem dX6_init_280 : decode cX6_init 280 = .ok (.dup, 1) := by decide +kernel
theorem dX6_init_281 : decode cX6_init 281 = .ok (.bipush 26, 2) := by decide +kernel
theorem dX6_init_283 : decode cX6_init 283 = .ok (.bipush 116, 2) := by decide +kernel
theorem dX6_init_285 : decode cX6_init 285 = .ok (.iastore, 1) := by decide +kernel
theorem dX6_init_286 : decode cX6_init 286 = .ok (.dup, 1) := by decide +kernel
theorem dX6_init_287 : decode cX6_init 287 = .ok (.bipush 27, 2) := by decide +kernel
theorem dX6_init_289 : decode cX6_init 289 = .ok (.bipush 115, 2) := by decide +kernel
theorem dX6_init_291 : decode cX6_init 291 = .ok (.iastore, 1) := by decide +kernel
theorem dX6_init_292 : decode cX6_init 292 = .ok (.dup, 1) := by decide +kernel
theorem dX6_init_293 : decode cX6_init 293 = .ok (.bipush 28, 2) := by decide +kernel
theorem dX6_init_295 : decode cX6_init 295 = .ok (.bipush 119, 2) := by decide +kernel
theorem dX6_init_297 : decode cX6_init 297 = .ok (.iastore, 1) := by decide +kernel
theorem dX6_init_298 : decode cX6_init 298 = .ok (.dup, 1) := by decide +kernel
theorem dX6_init_299 : decode cX6_init 299 = .ok (.bipush 29, 2) := by decide +kernel
theorem dX6_init_301 : decode cX6_init 301 = .ok (.bipush 111, 2) := by decide +kernel
theorem dX6_init_303 : decode cX6_init 303 = .ok (.iastore, 1) := by decide +kernel
theorem dX6_init_304 : decode cX6_init 304 = .ok (.dup, 1) := by decide +kernel
theorem dX6_init_305 : decode cX6_init 305 = .ok (.bipush 30, 2) := by decide +kernel
theorem dX6_init_307 : decode cX6_init 307 = .ok (.bipush 114, 2) := by decide +kernel
theorem dX6_init_309 : decode cX6_init 309 = .ok (.iastore, 1) := by decide +kernel
theorem dX6_init_310 : decode cX6_init 310 = .ok (.dup, 1) := by decide +kernel
theorem dX6_init_311 : decode cX6_init 311 = .ok (.bipush 31, 2) := by decide +kernel
theorem dX6_init_313 : decode cX6_init 313 = .ok (.bipush 116, 2) := by decide +kernel
theorem dX6_init_315 : decode cX6_init 315 = .ok (.iastore, 1) := by decide +kernel
theorem dX6_init_316 : decode cX6_init 316 = .ok (.dup, 1) := by decide +kernel
theorem dX6_init_317 : decode cX6_init 317 = .ok (.bipush 32, 2) := by decide +kernel
theorem dX6_init_319 : decode cX6_init 319 = .ok (.bipush 104, 2) := by decide +kernel
theorem dX6_init_321 : decode cX6_init 321 = .ok (.iastore, 1) := by decide +kernel
theorem dX6_init_322 : decode cX6_init 322 = .ok (.dup, 1) := by decide +kernel
theorem dX6_init_323 : decode cX6_init 323 = .ok (.bipush 33, 2) := by decide +kernel
theorem dX6_init_325 : decode cX6_init 325 = .ok (.bipush 98, 2) := by decide +kernel
theorem dX6_init_327 : decode cX6_init 327 = .ok (.iastore, 1) := by decide +kernel
theorem dX6_init_328 : decode cX6_init 328 = .ok (.dup, 1) := by decide +kernel
theorem dX6_init_329 : decode cX6_init 329 = .ok (.bipush 34, 2) := by decide +kernel
theorem dX6_init_331 : decode cX6_init 331 = .ok (.bipush 111, 2) := by decide +kernel
theorem dX6_init_333 : decode cX6_init 333 = .ok (.iastore, 1) := by decide +kernel
theorem dX6_init_334 : decode cX6_init 334 = .ok (.dup, 1) := by decide +kernel
theorem dX6_init_335 : decode cX6_init 335 = .ok (.bipush 35, 2) := by decide +kernel
theorem dX6_init_337 : decode cX6_init 337 = .ok (.bipush 110, 2) := by decide +kernel
theorem dX6_init_339 : decode cX6_init 339 = .ok (.iastore, 1) := by decide +kernel
theorem dX6_init_340 : decode cX6_init 340 = .ok (.dup, 1) := by decide +kernel
theorem dX6_init_341 : decode cX6_init 341 = .ok (.bipush 36, 2) := by decide +kernel
theorem dX6_init_343 : decode cX6_init 343 = .ok (.bipush 100, 2) := by decide +kernel
theorem dX6_init_345 : decode cX6_init 345 = .ok (.iastore, 1) := by decide +kernel
theorem dX6_init_346 : decode cX6_init 346 = .ok (.dup, 1) := by decide +kernel
theorem dX6_init_347 : decode cX6_init 347 = .ok (.bipush 37, 2) := by decide +kernel
theorem dX6_init_349 : decode cX6_init 349 = .ok (.bipush 102, 2) := by decide +kernel
theorem dX6_init_351 : decode cX6_init 351 = .ok (.iastore, 1) := by decide +kernel
theorem dX6_init_352 : decode cX6_init 352 = .ok (.dup, 1) := by decide +kernel
theorem dX6_init_353 : decode cX6_init 353 = .ok (.bipush 38, 2) := by decide +kernel
theorem dX6_init_355 : decode cX6_init 355 = .ok (.bipush 111, 2) := by decide +kernel
theorem dX6_init_357 : decode cX6_init 357 = .ok (.iastore, 1) := by decide +kernel
theorem dX6_init_358 : decode cX6_init 358 = .ok (.dup, 1) := by decide +kernel
theorem dX6_init_359 : decode cX6_init 359 = .ok (.bipush 39, 2) := by decide +kernel
theorem dX6_init_361 : decode cX6_init 361 = .ok (.bipush 114, 2) := by decide +kernel
theorem dX6_init_363 : decode cX6_init 363 = .ok (.iastore, 1) := by decide +kernel
theorem dX6_init_364 : decode cX6_init 364 = .ok (.dup, 1) := by decide +kernel
theorem dX6_init_365 : decode cX6_init 365 = .ok (.bipush 40, 2) := by decide +kernel
theorem dX6_init_367 : decode cX6_init 367 = .ok (.bipush 103, 2) := by decide +kernel
theorem dX6_init_369 : decode cX6_init 369 = .ok (.iastore, 1) := by decide +kernel
theorem dX6_init_370 : decode cX6_init 370 = .ok (.dup, 1) := by decide +kernel
theorem dX6_init_371 : decode cX6_init 371 = .ok (.bipush 41, 2) := by decide +kernel
theorem dX6_init_373 : decode cX6_init 373 = .ok (.bipush 101, 2) := by decide +kernel
theorem dX6_init_375 : decode cX6_init 375 = .ok (.iastore, 1) := by decide +kernel
theorem dX6_init_376 : decode cX6_init 376 = .ok (.dup, 1) := by decide +kernel
theorem dX6_init_377 : decode cX6_init 377 = .ok (.bipush 42, 2) := by decide +kernel
theorem dX6_init_379 : decode cX6_init 379 = .ok (.bipush 114, 2) := by decide +kernel
theorem dX6_init_381 : decode cX6_init 381 = .ok (.iastore, 1) := by decide +kernel
theorem dX6_init_382 : decode cX6_init 382 = .ok (.dup, 1) := by decide +kernel
theorem dX6_init_383 : decode cX6_init 383 = .ok (.bipush 43, 2) := by decide +kernel
theorem dX6_init_385 : decode cX6_init 385 = .ok (.bipush 112, 2) := by decide +kernel
theorem dX6_init_387 : decode cX6_init 387 = .ok (.iastore, 1) := by decide +kernel
theorem dX6_init_388 : decode cX6_init 388 = .ok (.dup, 1) := by decide +kernel
theorem dX6_init_389 : decode cX6_init 389 = .ok (.bipush 44, 2) := by decide +kernel
theorem dX6_init_391 : decode cX6_init 391 = .ok (.bipush 97, 2) := by decide +kernel
theorem dX6_init_393 : decode cX6_init 393 = .ok (.iastore, 1) := by decide +kernel
theorem dX6_init_394 : decode cX6_init 394 = .ok (.dup, 1) := by decide +kernel
theorem dX6_init_395 : decode cX6_init 395 = .ok (.bipush 45, 2) := by decide +kernel
theorem dX6_init_397 : decode cX6_init 397 = .ok (.bipush 105, 2) := by decide +kernel
theorem dX6_init_399 : decode cX6_init 399 = .ok (.iastore, 1) := by decide +kernel
theorem dX6_init_400 : decode cX6_init 400 = .ok (.dup, 1) := by decide +kernel
theorem dX6_init_401 : decode cX6_init 401 = .ok (.bipush 46, 2) := by decide +kernel
theorem dX6_init_403 : decode cX6_init 403 = .ok (.bipush 110, 2) := by decide +kernel
theorem dX6_init_405 : decode cX6_init 405 = .ok (.iastore, 1) := by decide +kernel
theorem dX6_init_406 : decode cX6_init 406 = .ok (.dup, 1) := by decide +kernel
theorem dX6_init_407 : decode cX6_init 407 = .ok (.bipush 47, 2) := by decide +kernel
theorem dX6_init_409 : decode cX6_init 409 = .ok (.bipush 116, 2) := by decide +kernel
theorem dX6_init_411 : decode cX6_init 411 = .ok (.iastore, 1) := by decide +kernel
theorem dX6_init_412 : decode cX6_init 412 = .ok (.putfield 38, 3) := by decide +kernel
theorem dX6_init_415 : decode cX6_init 415 = .ok (.aload_n 0, 1) := by decide +kernel
theorem dX6_init_416 : decode cX6_init 416 = .ok (.iconst 5, 1) := by decide +kernel
theorem dX6_init_417 : decode cX6_init 417 = .ok (.newarray .int, 2) := by decide +kernel
theorem dX6_init_419 : decode cX6_init 419 = .ok (.putfield 41, 3) := by decide +kernel
theorem dX6_init_422 : decode cX6_init 422 = .ok (.aload_n 0, 1) := by decide +kernel
theorem dX6_init_423 : decode cX6_init 423 = .ok (.bipush 6, 2) := by decide +kernel
theorem dX6_init_425 : decode cX6_init 425 = .ok (.newarray .int, 2) := by decide +kernel
theorem dX6_init_427 : decode cX6_init 427 = .ok (.putfield 44, 3) := by decide +kernel
theorem dX6_init_430 : decode cX6_init 430 = .ok (.aload_n 0, 1) := by decide +kernel
theorem dX6_init_431 : decode cX6_init 431 = .ok (.bipush 18, 2) := by decide +kernel
theorem dX6_init_433 : decode cX6_init 433 = .ok (.newarray .int, 2) := by decide +kernel
theorem dX6_init_435 : decode cX6_init 435 = .ok (.putfield 47, 3) := by decide +kernel
theorem dX6_init_438 : decode cX6_init 438 = .ok (.aload_n 0, 1) := by decide +kernel
theorem dX6_init_439 : decode cX6_init 439 = .ok (.bipush 36, 2) := by decide +kernel
theorem dX6_init_441 : decode cX6_init 441 = .ok (.newarray .int, 2) := by decide +kernel
theorem dX6_init_443 : decode cX6_init 443 = .ok (.putfield 50, 3) := by decide +kernel
theorem dX6_init_446 : decode cX6_init 446 = .ok (.aload_n 0, 1) := by decide +kernel
theorem dX6_init_447 : decode cX6_init 447 = .ok (.iconst 2, 1) := by decide +kernel
theorem dX6_init_448 : decode cX6_init 448 = .ok (.newarray .boolean, 2) := by decide +kernel
theorem dX6_init_450 : decode cX6_init 450 = .ok (.putfield 53, 3) := by decide +kernel
theorem dX6_init_453 : decode cX6_init 453 = .ok (.aload_n 0, 1) := by decide +kernel
theorem dX6_init_454 : decode cX6_init 454 = .ok (.iconst 4, 1) := by decide +kernel
theorem dX6_init_455 : decode cX6_init 455 = .ok (.newarray .int, 2) := by decide +kernel
theorem dX6_init_457 : decode cX6_init 457 = .ok (.dup, 1) := by decide +kernel
theorem dX6_init_458 : decode cX6_init 458 = .ok (.iconst 0, 1) := by decide +kernel
theorem dX6_init_459 : decode cX6_init 459 = .ok (.bipush (-4), 2) := by decide +kernel
theorem dX6_init_461 : decode cX6_init 461 = .ok (.iastore, 1) := by decide +kernel
theorem dX6_init_462 : decode cX6_init 462 = .ok (.dup, 1) := by decide +kernel
theorem dX6_init_463 : decode cX6_init 463 = .ok (.iconst 1, 1) := by decide +kernel
theorem dX6_init_464 : decode cX6_init 464 = .ok (.bipush (-4), 2) := by decide +kernel
theorem dX6_init_466 : decode cX6_init 466 = .ok (.iastore, 1) := by decide +kernel
theorem dX6_init_467 : decode cX6_init 467 = .ok (.dup, 1) := by decide +kernel
theorem dX6_init_468 : decode cX6_init 468 = .ok (.iconst 2, 1) := by decide +kernel
theorem dX6_init_469 : decode cX6_init 469 = .ok (.bipush (-4), 2) := by decide +kernel
theorem dX6_init_471 : decode cX6_init 471 = .ok (.iastore, 1) := by decide +kernel
theorem dX6_init_472 : decode cX6_init 472 = .ok (.dup, 1) := by decide +kernel
theorem dX6_init_473 : decode cX6_init 473 = .ok (.iconst 3, 1) := by decide +kernel
theorem dX6_init_474 : decode cX6_init 474 = .ok (.bipush (-4), 2) := by decide +kernel
theorem dX6_init_476 : decode cX6_init 476 = .ok (.iastore, 1) := by decide +kernel
theorem dX6_init_477 : decode cX6_init 477 = .ok (.putfield 57, 3) := by decide +kernel
theorem dX6_init_480 : decode cX6_init 480 = .ok (.aload_n 0, 1) := by decide +kernel
theorem dX6_init_481 : decode cX6_init 481 = .ok (.iconst 4, 1) := by decide +kernel
theorem dX6_init_482 : decode cX6_init 482 = .ok (.newarray .int, 2) := by decide +kernel
theorem dX6_init_484 : decode cX6_init 484 = .ok (.putfield 60, 3) := by decide +kernel
theorem dX6_init_487 : decode cX6_init 487 = .ok (.aload_n 0, 1) := by decide +kernel
theorem dX6_init_488 : decode cX6_init 488 = .ok (.sipush 160, 3) := by decide +kernel
theorem dX6_init_491 : decode cX6_init 491 = .ok (.newarray .int, 2) := by decide +kernel
theorem dX6_init_493 : decode cX6_init 493 = .ok (.putfield 63, 3) := by decide +kernel
theorem dX6_init_496 : decode cX6_init 496 = .ok (.return_, 1) := by decide +kernel
theorem dX6_in_0 : decode cX6_in 0 = .ok (.lload_n 0, 1) := by decide +kernel
theorem dX6_in_1 : decode cX6_in 1 = .ok (.lload_n 2, 1) := by decide +kernel
theorem dX6_in_2 : decode cX6_in 2 = .ok (.lcmp, 1) := by decide +kernel
theorem dX6_in_3 : decode cX6_in 3 = .ok (.ifCond .lt 14, 3) := by decide +kernel
theorem dX6_in_6 : decode cX6_in 6 = .ok (.lload_n 0, 1) := by decide +kernel
theorem dX6_in_7 : decode cX6_in 7 = .ok (.lload 4, 2) := by decide +kernel
theorem dX6_in_9 : decode cX6_in 9 = .ok (.lcmp, 1) := by decide +kernel
theorem dX6_in_10 : decode cX6_in 10 = .ok (.ifCond .gt 7, 3) := by decide +kernel
theorem dX6_in_13 : decode cX6_in 13 = .ok (.iconst 1, 1) := by decide +kernel
theorem dX6_in_14 : decode cX6_in 14 = .ok (.goto 4, 3) := by decide +kernel
theorem dX6_in_17 : decode cX6_in 17 = .ok (.iconst 0, 1) := by decide +kernel
theorem dX6_in_18 : decode cX6_in 18 = .ok (.ireturn, 1) := by decide +kernel
theorem dX6_feed_0 : decode cX6_feed 0 = .ok (.iload_n 1, 1) := by decide +kernel
theorem dX6_feed_1 : decode cX6_feed 1 = .ok (.i2l, 1) := by decide +kernel
theorem dX6_feed_2 : decode cX6_feed 2 = .ok (.lconst 0, 1) := by decide +kernel
theorem dX6_feed_3 : decode cX6_feed 3 = .ok (.ldc2_w 66, 3) := by decide +kernel
theorem dX6_feed_6 : decode cX6_feed 6 = .ok (.invokestatic 68, 3) := by decide +kernel
theorem dX6_feed_9 : decode cX6_feed 9 = .ok (.ifCond .ne 5, 3) := by decide +kernel
theorem dX6_feed_12 : decode cX6_feed 12 = .ok (.iconst (-1), 1) := by decide +kernel
theorem dX6_feed_13 : decode cX6_feed 13 = .ok (.ireturn, 1) := by decide +kernel
theorem dX6_feed_14 : decode cX6_feed 14 = .ok (.aload_n 0, 1) := by decide +kernel
theorem dX6_feed_15 : decode cX6_feed 15 = .ok (.getfield 72, 3) := by decide +kernel
theorem dX6_feed_18 : decode cX6_feed 18 = .ok (.sipush 160, 3) := by decide +kernel
theorem dX6_feed_21 : decode cX6_feed 21 = .ok (.if_icmp .ne 6, 3) := by decide +kernel
theorem dX6_feed_24 : decode cX6_feed 24 = .ok (.bipush (-3), 2) := by decide +kernel
theorem dX6_feed_26 : decode cX6_feed 26 = .ok (.ireturn, 1) := by decide +kernel
theorem dX6_feed_27 : decode cX6_feed 27 = .ok (.aload_n 0, 1) := by decide +kernel
theorem dX6_feed_28 : decode cX6_feed 28 = .ok (.getfield 32, 3) := by decide +kernel
theorem dX6_feed_31 : decode cX6_feed 31 = .ok (.aload_n 0, 1) := by decide +kernel
theorem dX6_feed_32 : decode cX6_feed 32 = .ok (.getfield 72, 3) := by decide +kernel
theorem dX6_feed_35 : decode cX6_feed 35 = .ok (.iload_n 1, 1) := by decide +kernel
theorem dX6_feed_36 : decode cX6_feed 36 = .ok (.iastore, 1) := by decide +kernel
theorem dX6_feed_37 : decode cX6_feed 37 = .ok (.aload_n 0, 1) := by decide +kernel
theorem dX6_feed_38 : decode cX6_feed 38 = .ok (.dup, 1) := by decide +kernel
theorem dX6_feed_39 : decode cX6_feed 39 = .ok (.getfield 72, 3) := by decide +kernel
theorem dX6_feed_42 : decode cX6_feed 42 = .ok (.iconst 1, 1) := by decide +kernel
theorem dX6_feed_43 : decode cX6_feed 43 = .ok (.iadd, 1) := by decide +kernel
theorem dX6_feed_44 : decode cX6_feed 44 = .ok (.putfield 72, 3) := by decide +kernel
theorem dX6_feed_47 : decode cX6_feed 47 = .ok (.aload_n 0, 1) := by decide +kernel
theorem dX6_feed_48 : decode cX6_feed 48 = .ok (.getfield 72, 3) := by decide +kernel
theorem dX6_feed_51 : decode cX6_feed 51 = .ok (.ireturn, 1) := by decide +kernel
theorem dX6_end_0 : decode cX6_end 0 = .ok (.iload_n 1, 1) := by decide +kernel
theorem dX6_end_1 : decode cX6_end 1 = .ok (.i2l, 1) := by decide +kernel
theorem dX6_end_2 : decode cX6_end 2 = .ok (.lconst 0, 1) := by decide +kernel
theorem dX6_end_3 : decode cX6_end 3 = .ok (.aload_n 0, 1) := by decide +kernel
theorem dX6_end_4 : decode cX6_end 4 = .ok (.getfield 72, 3) := by decide +kernel
theorem dX6_end_7 : decode cX6_end 7 = .ok (.i2l, 1) := by decide +kernel
theorem dX6_end_8 : decode cX6_end 8 = .ok (.invokestatic 68, 3) := by decide +kernel
theorem dX6_end_11 : decode cX6_end 11 = .ok (.ifCond .ne 5, 3) := by decide +kernel
theorem dX6_end_14 : decode cX6_end 14 = .ok (.iconst (-1), 1) := by decide +kernel
theorem dX6_end_15 : decode cX6_end 15 = .ok (.ireturn, 1) := by decide +kernel
theorem dX6_end_16 : decode cX6_end 16 = .ok (.aload_n 0, 1) := by decide +kernel
theorem dX6_end_17 : decode cX6_end 17 = .ok (.getfield 72, 3) := by decide +kernel
theorem dX6_end_20 : decode cX6_end 20 = .ok (.istore_n 2, 1) := by decide +kernel
theorem dX6_end_21 : decode cX6_end 21 = .ok (.aload_n 0, 1) := by decide +kernel
theorem dX6_end_22 : decode cX6_end 22 = .ok (.iload_n 1, 1) := by decide +kernel
theorem dX6_end_23 : decode cX6_end 23 = .ok (.putfield 72, 3) := by decide +kernel
theorem dX6_end_26 : decode cX6_end 26 = .ok (.iload_n 2, 1) := by decide +kernel
theorem dX6_end_27 : decode cX6_end 27 = .ok (.ireturn, 1) := by decide +kernel
theorem dX6_byteAt_0 : decode cX6_byteAt 0 = .ok (.iload_n 1, 1) := by decide +kernel
theorem dX6_byteAt_1 : decode cX6_byteAt 1 = .ok (.aload_n 0, 1) := by decide +kernel
theorem dX6_byteAt_2 : decode cX6_byteAt 2 = .ok (.getfield 72, 3) := by decide +kernel
theorem dX6_byteAt_5 : decode cX6_byteAt 5 = .ok (.if_icmp .ge 12, 3) := by decide +kernel
theorem dX6_byteAt_8 : decode cX6_byteAt 8 = .ok (.aload_n 0, 1) := by decide +kernel
theorem dX6_byteAt_9 : decode cX6_byteAt 9 = .ok (.getfield 32, 3) := by decide +kernel
theorem dX6_byteAt_12 : decode cX6_byteAt 12 = .ok (.iload_n 1, 1) := by decide +kernel
theorem dX6_byteAt_13 : decode cX6_byteAt 13 = .ok (.iaload, 1) := by decide +kernel
theorem dX6_byteAt_14 : decode cX6_byteAt 14 = .ok (.goto 5, 3) := by decide +kernel
theorem dX6_byteAt_17 : decode cX6_byteAt 17 = .ok (.bipush (-4), 2) := by decide +kernel
theorem dX6_byteAt_19 : decode cX6_byteAt 19 = .ok (.ireturn, 1) := by decide +kernel
theorem dX6_fails_0 : decode cX6_fails 0 = .ok (.aload_n 0, 1) := by decide +kernel
theorem dX6_fails_1 : decode cX6_fails 1 = .ok (.getfield 75, 3) := by decide +kernel
theorem dX6_fails_4 : decode cX6_fails 4 = .ok (.ifCond .ne 16, 3) := by decide +kernel
theorem dX6_fails_7 : decode cX6_fails 7 = .ok (.aload_n 0, 1) := by decide +kernel
theorem dX6_fails_8 : decode cX6_fails 8 = .ok (.iload_n 1, 1) := by decide +kernel
theorem dX6_fails_9 : decode cX6_fails 9 = .ok (.putfield 75, 3) := by decide +kernel
theorem dX6_fails_12 : decode cX6_fails 12 = .ok (.aload_n 0, 1) := by decide +kernel
theorem dX6_fails_13 : decode cX6_fails 13 = .ok (.aload_n 0, 1) := by decide +kernel
theorem dX6_fails_14 : decode cX6_fails 14 = .ok (.getfield 78, 3) := by decide +kernel
theorem dX6_fails_17 : decode cX6_fails 17 = .ok (.putfield 81, 3) := by decide +kernel
theorem dX6_fails_20 : decode cX6_fails 20 = .ok (.return_, 1) := by decide +kernel
theorem dX6_nameHere_0 : decode cX6_nameHere 0 = .ok (.iconst 0, 1) := by decide +kernel
theorem dX6_nameHere_1 : decode cX6_nameHere 1 = .ok (.istore_n 1, 1) := by decide +kernel
theorem dX6_nameHere_2 : decode cX6_nameHere 2 = .ok (.iload_n 1, 1) := by decide +kernel
theorem dX6_nameHere_3 : decode cX6_nameHere 3 = .ok (.bipush 9, 2) := by decide +kernel
theorem dX6_nameHere_5 : decode cX6_nameHere 5 = .ok (.if_icmp .ge 113, 3) := by decide +kernel
theorem dX6_nameHere_8 : decode cX6_nameHere 8 = .ok (.aload_n 0, 1) := by decide +kernel
theorem dX6_nameHere_9 : decode cX6_nameHere 9 = .ok (.getfield 84, 3) := by decide +kernel
theorem dX6_nameHere_12 : decode cX6_nameHere 12 = .ok (.iconst 1, 1) := by decide +kernel
theorem dX6_nameHere_13 : decode cX6_nameHere 13 = .ok (.if_icmp .ne 105, 3) := by decide +kernel
theorem dX6_nameHere_16 : decode cX6_nameHere 16 = .ok (.aload_n 0, 1) := by decide +kernel
theorem dX6_nameHere_17 : decode cX6_nameHere 17 = .ok (.getfield 87, 3) := by decide +kernel
theorem dX6_nameHere_20 : decode cX6_nameHere 20 = .ok (.aload_n 0, 1) := by decide +kernel
theorem dX6_nameHere_21 : decode cX6_nameHere 21 = .ok (.getfield 78, 3) := by decide +kernel
theorem dX6_nameHere_24 : decode cX6_nameHere 24 = .ok (.isub, 1) := by decide +kernel
theorem dX6_nameHere_25 : decode cX6_nameHere 25 = .ok (.aload_n 0, 1) := by decide +kernel
theorem dX6_nameHere_26 : decode cX6_nameHere 26 = .ok (.getfield 35, 3) := by decide +kernel
theorem dX6_nameHere_29 : decode cX6_nameHere 29 = .ok (.iload_n 1, 1) := by decide +kernel
theorem dX6_nameHere_30 : decode cX6_nameHere 30 = .ok (.iconst 1, 1) := by decide +kernel
theorem dX6_nameHere_31 : decode cX6_nameHere 31 = .ok (.iadd, 1) := by decide +kernel
theorem dX6_nameHere_32 : decode cX6_nameHere 32 = .ok (.iaload, 1) := by decide +kernel
theorem dX6_nameHere_33 : decode cX6_nameHere 33 = .ok (.aload_n 0, 1) := by decide +kernel
theorem dX6_nameHere_34 : decode cX6_nameHere 34 = .ok (.getfield 35, 3) := by decide +kernel
theorem dX6_nameHere_37 : decode cX6_nameHere 37 = .ok (.iload_n 1, 1) := by decide +kernel
theorem dX6_nameHere_38 : decode cX6_nameHere 38 = .ok (.iaload, 1) := by decide +kernel
theorem dX6_nameHere_39 : decode cX6_nameHere 39 = .ok (.isub, 1) := by decide +kernel
theorem dX6_nameHere_40 : decode cX6_nameHere 40 = .ok (.if_icmp .ne 7, 3) := by decide +kernel
theorem dX6_nameHere_43 : decode cX6_nameHere 43 = .ok (.iconst 1, 1) := by decide +kernel
theorem dX6_nameHere_44 : decode cX6_nameHere 44 = .ok (.goto 4, 3) := by decide +kernel
theorem dX6_nameHere_47 : decode cX6_nameHere 47 = .ok (.iconst 0, 1) := by decide +kernel
theorem dX6_nameHere_48 : decode cX6_nameHere 48 = .ok (.istore_n 2, 1) := by decide +kernel
theorem dX6_nameHere_49 : decode cX6_nameHere 49 = .ok (.iconst 0, 1) := by decide +kernel
theorem dX6_nameHere_50 : decode cX6_nameHere 50 = .ok (.istore_n 3, 1) := by decide +kernel
theorem dX6_nameHere_51 : decode cX6_nameHere 51 = .ok (.iload_n 2, 1) := by decide +kernel
theorem dX6_nameHere_52 : decode cX6_nameHere 52 = .ok (.ifCond .eq 54, 3) := by decide +kernel
theorem dX6_nameHere_55 : decode cX6_nameHere 55 = .ok (.iload_n 3, 1) := by decide +kernel
theorem dX6_nameHere_56 : decode cX6_nameHere 56 = .ok (.aload_n 0, 1) := by decide +kernel
theorem dX6_nameHere_57 : decode cX6_nameHere 57 = .ok (.getfield 87, 3) := by decide +kernel
theorem dX6_nameHere_60 : decode cX6_nameHere 60 = .ok (.aload_n 0, 1) := by decide +kernel
theorem dX6_nameHere_61 : decode cX6_nameHere 61 = .ok (.getfield 78, 3) := by decide +kernel
theorem dX6_nameHere_64 : decode cX6_nameHere 64 = .ok (.isub, 1) := by decide +kernel
theorem dX6_nameHere_65 : decode cX6_nameHere 65 = .ok (.if_icmp .ge 41, 3) := by decide +kernel
theorem dX6_nameHere_68 : decode cX6_nameHere 68 = .ok (.aload_n 0, 1) := by decide +kernel
theorem dX6_nameHere_69 : decode cX6_nameHere 69 = .ok (.aload_n 0, 1) := by decide +kernel
theorem dX6_nameHere_70 : decode cX6_nameHere 70 = .ok (.getfield 78, 3) := by decide +kernel
theorem dX6_nameHere_73 : decode cX6_nameHere 73 = .ok (.iload_n 3, 1) := by decide +kernel
theorem dX6_nameHere_74 : decode cX6_nameHere 74 = .ok (.iadd, 1) := by decide +kernel
theorem dX6_nameHere_75 : decode cX6_nameHere 75 = .ok (.invokevirtual 90, 3) := by decide +kernel
theorem dX6_nameHere_78 : decode cX6_nameHere 78 = .ok (.aload_n 0, 1) := by decide +kernel
theorem dX6_nameHere_79 : decode cX6_nameHere 79 = .ok (.getfield 38, 3) := by decide +kernel
theorem dX6_nameHere_82 : decode cX6_nameHere 82 = .ok (.aload_n 0, 1) := by decide +kernel
theorem dX6_nameHere_83 : decode cX6_nameHere 83 = .ok (.getfield 35, 3) := by decide +kernel
theorem dX6_nameHere_86 : decode cX6_nameHere 86 = .ok (.iload_n 1, 1) := by decide +kernel
theorem dX6_nameHere_87 : decode cX6_nameHere 87 = .ok (.iaload, 1) := by decide +kernel
theorem dX6_nameHere_88 : decode cX6_nameHere 88 = .ok (.iload_n 3, 1) := by decide +kernel
theorem dX6_nameHere_89 : decode cX6_nameHere 89 = .ok (.iadd, 1) := by decide +kernel
theorem dX6_nameHere_90 : decode cX6_nameHere 90 = .ok (.iaload, 1) := by decide +kernel
theorem dX6_nameHere_91 : decode cX6_nameHere 91 = .ok (.if_icmp .ne 7, 3) := by decide +kernel
theorem dX6_nameHere_94 : decode cX6_nameHere 94 = .ok (.iconst 1, 1) := by decide +kernel
theorem dX6_nameHere_95 : decode cX6_nameHere 95 = .ok (.goto 4, 3) := by decide +kernel
theorem dX6_nameHere_98 : decode cX6_nameHere 98 = .ok (.iconst 0, 1) := by decide +kernel
theorem dX6_nameHere_99 : decode cX6_nameHere 99 = .ok (.istore_n 2, 1) := by decide +kernel
theorem dX6_nameHere_100 : decode cX6_nameHere 100 = .ok (.iinc 3 1, 3) := by decide +kernel
theorem dX6_nameHere_103 : decode cX6_nameHere 103 = .ok (.goto (-52), 3) := by decide +kernel
theorem dX6_nameHere_106 : decode cX6_nameHere 106 = .ok (.iload_n 2, 1) := by decide +kernel
theorem dX6_nameHere_107 : decode cX6_nameHere 107 = .ok (.ifCond .eq 5, 3) := by decide +kernel
theorem dX6_nameHere_110 : decode cX6_nameHere 110 = .ok (.iload_n 1, 1) := by decide +kernel
theorem dX6_nameHere_111 : decode cX6_nameHere 111 = .ok (.ireturn, 1) := by decide +kernel
theorem dX6_nameHere_112 : decode cX6_nameHere 112 = .ok (.iinc 1 1, 3) := by decide +kernel
theorem dX6_nameHere_115 : decode cX6_nameHere 115 = .ok (.goto (-113), 3) := by decide +kernel
theorem dX6_nameHere_118 : decode cX6_nameHere 118 = .ok (.bipush (-4), 2) := by decide +kernel
theorem dX6_nameHere_120 : decode cX6_nameHere 120 = .ok (.ireturn, 1) := by decide +kernel
theorem dX6_step_0 : decode cX6_step 0 = .ok (.aload_n 0, 1) := by decide +kernel
theorem dX6_step_1 : decode cX6_step 1 = .ok (.getfield 75, 3) := by decide +kernel
theorem dX6_step_4 : decode cX6_step 4 = .ok (.ifCond .le 4, 3) := by decide +kernel
theorem dX6_step_7 : decode cX6_step 7 = .ok (.return_, 1) := by decide +kernel
theorem dX6_step_8 : decode cX6_step 8 = .ok (.aload_n 0, 1) := by decide +kernel
theorem dX6_step_9 : decode cX6_step 9 = .ok (.aload_n 0, 1) := by decide +kernel
theorem dX6_step_10 : decode cX6_step 10 = .ok (.getfield 87, 3) := by decide +kernel
theorem dX6_step_13 : decode cX6_step 13 = .ok (.invokevirtual 90, 3) := by decide +kernel
theorem dX6_step_16 : decode cX6_step 16 = .ok (.bipush 32, 2) := by decide +kernel
theorem dX6_step_18 : decode cX6_step 18 = .ok (.if_icmp .ne 16, 3) := by decide +kernel
theorem dX6_step_21 : decode cX6_step 21 = .ok (.aload_n 0, 1) := by decide +kernel
theorem dX6_step_22 : decode cX6_step 22 = .ok (.dup, 1) := by decide +kernel
theorem dX6_step_23 : decode cX6_step 23 = .ok (.getfield 87, 3) := by decide +kernel
theorem dX6_step_26 : decode cX6_step 26 = .ok (.iconst 1, 1) := by decide +kernel
theorem dX6_step_27 : decode cX6_step 27 = .ok (.iadd, 1) := by decide +kernel
theorem dX6_step_28 : decode cX6_step 28 = .ok (.putfield 87, 3) := by decide +kernel
theorem dX6_step_31 : decode cX6_step 31 = .ok (.goto (-23), 3) := by decide +kernel
theorem dX6_step_34 : decode cX6_step 34 = .ok (.aload_n 0, 1) := by decide +kernel
theorem dX6_step_35 : decode cX6_step 35 = .ok (.aload_n 0, 1) := by decide +kernel
theorem dX6_step_36 : decode cX6_step 36 = .ok (.getfield 87, 3) := by decide +kernel
theorem dX6_step_39 : decode cX6_step 39 = .ok (.putfield 78, 3) := by decide +kernel
theorem dX6_step_42 : decode cX6_step 42 = .ok (.aload_n 0, 1) := by decide +kernel
theorem dX6_step_43 : decode cX6_step 43 = .ok (.aload_n 0, 1) := by decide +kernel
theorem dX6_step_44 : decode cX6_step 44 = .ok (.getfield 87, 3) := by decide +kernel
theorem dX6_step_47 : decode cX6_step 47 = .ok (.invokevirtual 90, 3) := by decide +kernel
theorem dX6_step_50 : decode cX6_step 50 = .ok (.istore_n 1, 1) := by decide +kernel
theorem dX6_step_51 : decode cX6_step 51 = .ok (.aload_n 0, 1) := by decide +kernel
theorem dX6_step_52 : decode cX6_step 52 = .ok (.iconst 0, 1) := by decide +kernel
theorem dX6_step_53 : decode cX6_step 53 = .ok (.putfield 94, 3) := by decide +kernel
theorem dX6_step_56 : decode cX6_step 56 = .ok (.iload_n 1, 1) := by decide +kernel
theorem dX6_step_57 : decode cX6_step 57 = .ok (.bipush (-4), 2) := by decide +kernel
theorem dX6_step_59 : decode cX6_step 59 = .ok (.if_icmp .ne 11, 3) := by decide +kernel
theorem dX6_step_62 : decode cX6_step 62 = .ok (.aload_n 0, 1) := by decide +kernel
theorem dX6_step_63 : decode cX6_step 63 = .ok (.iconst 0, 1) := by decide +kernel
theorem dX6_step_64 : decode cX6_step 64 = .ok (.putfield 84, 3) := by decide +kernel
theorem dX6_step_67 : decode cX6_step 67 = .ok (.goto 202, 3) := by decide +kernel
theorem dX6_step_70 : decode cX6_step 70 = .ok (.iload_n 1, 1) := by decide +kernel
theorem dX6_step_71 : decode cX6_step 71 = .ok (.i2l, 1) := by decide +kernel
theorem dX6_step_72 : decode cX6_step 72 = .ok (.ldc2_w 97, 3) := by decide +kernel
theorem dX6_step_75 : decode cX6_step 75 = .ok (.ldc2_w 99, 3) := by decide +kernel
theorem dX6_step_78 : decode cX6_step 78 = .ok (.invokestatic 68, 3) := by decide +kernel
theorem dX6_step_81 : decode cX6_step 81 = .ok (.ifCond .eq 45, 3) := by decide +kernel
theorem dX6_step_84 : decode cX6_step 84 = .ok (.aload_n 0, 1) := by decide +kernel
theorem dX6_step_85 : decode cX6_step 85 = .ok (.aload_n 0, 1) := by decide +kernel
theorem dX6_step_86 : decode cX6_step 86 = .ok (.getfield 87, 3) := by decide +kernel
theorem dX6_step_89 : decode cX6_step 89 = .ok (.invokevirtual 90, 3) := by decide +kernel
theorem dX6_step_92 : decode cX6_step 92 = .ok (.i2l, 1) := by decide +kernel
theorem dX6_step_93 : decode cX6_step 93 = .ok (.ldc2_w 97, 3) := by decide +kernel
theorem dX6_step_96 : decode cX6_step 96 = .ok (.ldc2_w 99, 3) := by decide +kernel
theorem dX6_step_99 : decode cX6_step 99 = .ok (.invokestatic 68, 3) := by decide +kernel
theorem dX6_step_102 : decode cX6_step 102 = .ok (.ifCond .eq 16, 3) := by decide +kernel
theorem dX6_step_105 : decode cX6_step 105 = .ok (.aload_n 0, 1) := by decide +kernel
theorem dX6_step_106 : decode cX6_step 106 = .ok (.dup, 1) := by decide +kernel
theorem dX6_step_107 : decode cX6_step 107 = .ok (.getfield 87, 3) := by decide +kernel
theorem dX6_step_110 : decode cX6_step 110 = .ok (.iconst 1, 1) := by decide +kernel
theorem dX6_step_111 : decode cX6_step 111 = .ok (.iadd, 1) := by decide +kernel
theorem dX6_step_112 : decode cX6_step 112 = .ok (.putfield 87, 3) := by decide +kernel
theorem dX6_step_115 : decode cX6_step 115 = .ok (.goto (-31), 3) := by decide +kernel
theorem dX6_step_118 : decode cX6_step 118 = .ok (.aload_n 0, 1) := by decide +kernel
theorem dX6_step_119 : decode cX6_step 119 = .ok (.iconst 1, 1) := by decide +kernel
theorem dX6_step_120 : decode cX6_step 120 = .ok (.putfield 84, 3) := by decide +kernel
theorem dX6_step_123 : decode cX6_step 123 = .ok (.goto 146, 3) := by decide +kernel
theorem dX6_step_126 : decode cX6_step 126 = .ok (.iload_n 1, 1) := by decide +kernel
theorem dX6_step_127 : decode cX6_step 127 = .ok (.i2l, 1) := by decide +kernel
theorem dX6_step_128 : decode cX6_step 128 = .ok (.ldc2_w 101, 3) := by decide +kernel
theorem dX6_step_131 : decode cX6_step 131 = .ok (.ldc2_w 103, 3) := by decide +kernel
theorem dX6_step_134 : decode cX6_step 134 = .ok (.invokestatic 68, 3) := by decide +kernel
theorem dX6_step_137 : decode cX6_step 137 = .ok (.ifCond .eq 106, 3) := by decide +kernel
theorem dX6_step_140 : decode cX6_step 140 = .ok (.aload_n 0, 1) := by decide +kernel
theorem dX6_step_141 : decode cX6_step 141 = .ok (.aload_n 0, 1) := by decide +kernel
theorem dX6_step_142 : decode cX6_step 142 = .ok (.getfield 87, 3) := by decide +kernel
theorem dX6_step_145 : decode cX6_step 145 = .ok (.invokevirtual 90, 3) := by decide +kernel
theorem dX6_step_148 : decode cX6_step 148 = .ok (.i2l, 1) := by decide +kernel
theorem dX6_step_149 : decode cX6_step 149 = .ok (.ldc2_w 101, 3) := by decide +kernel
theorem dX6_step_152 : decode cX6_step 152 = .ok (.ldc2_w 103, 3) := by decide +kernel
theorem dX6_step_155 : decode cX6_step 155 = .ok (.invokestatic 68, 3) := by decide +kernel
theorem dX6_step_158 : decode cX6_step 158 = .ok (.ifCond .eq 59, 3) := by decide +kernel
theorem dX6_step_161 : decode cX6_step 161 = .ok (.aload_n 0, 1) := by decide +kernel
theorem dX6_step_162 : decode cX6_step 162 = .ok (.aload_n 0, 1) := by decide +kernel
theorem dX6_step_163 : decode cX6_step 163 = .ok (.getfield 87, 3) := by decide +kernel
theorem dX6_step_166 : decode cX6_step 166 = .ok (.aload_n 0, 1) := by decide +kernel
theorem dX6_step_167 : decode cX6_step 167 = .ok (.getfield 78, 3) := by decide +kernel
theorem dX6_step_170 : decode cX6_step 170 = .ok (.isub, 1) := by decide +kernel
theorem dX6_step_171 : decode cX6_step 171 = .ok (.iconst 2, 1) := by decide +kernel
theorem dX6_step_172 : decode cX6_step 172 = .ok (.if_icmp .ge 25, 3) := by decide +kernel
theorem dX6_step_175 : decode cX6_step 175 = .ok (.bipush 10, 2) := by decide +kernel
theorem dX6_step_177 : decode cX6_step 177 = .ok (.aload_n 0, 1) := by decide +kernel
theorem dX6_step_178 : decode cX6_step 178 = .ok (.getfield 94, 3) := by decide +kernel
theorem dX6_step_181 : decode cX6_step 181 = .ok (.imul, 1) := by decide +kernel
theorem dX6_step_182 : decode cX6_step 182 = .ok (.aload_n 0, 1) := by decide +kernel
theorem dX6_step_183 : decode cX6_step 183 = .ok (.aload_n 0, 1) := by decide +kernel
theorem dX6_step_184 : decode cX6_step 184 = .ok (.getfield 87, 3) := by decide +kernel
theorem dX6_step_187 : decode cX6_step 187 = .ok (.invokevirtual 90, 3) := by decide +kernel
theorem dX6_step_190 : decode cX6_step 190 = .ok (.iadd, 1) := by decide +kernel
theorem dX6_step_191 : decode cX6_step 191 = .ok (.bipush 48, 2) := by decide +kernel
theorem dX6_step_193 : decode cX6_step 193 = .ok (.isub, 1) := by decide +kernel
theorem dX6_step_194 : decode cX6_step 194 = .ok (.goto 7, 3) := by decide +kernel
theorem dX6_step_197 : decode cX6_step 197 = .ok (.aload_n 0, 1) := by decide +kernel
theorem dX6_step_198 : decode cX6_step 198 = .ok (.getfield 94, 3) := by decide +kernel
theorem dX6_step_201 : decode cX6_step 201 = .ok (.putfield 94, 3) := by decide +kernel
theorem dX6_step_204 : decode cX6_step 204 = .ok (.aload_n 0, 1) := by decide +kernel
theorem dX6_step_205 : decode cX6_step 205 = .ok (.dup, 1) := by decide +kernel
theorem dX6_step_206 : decode cX6_step 206 = .ok (.getfield 87, 3) := by decide +kernel
theorem dX6_step_209 : decode cX6_step 209 = .ok (.iconst 1, 1) := by decide +kernel
theorem dX6_step_210 : decode cX6_step 210 = .ok (.iadd, 1) := by decide +kernel
theorem dX6_step_211 : decode cX6_step 211 = .ok (.putfield 87, 3) := by decide +kernel
theorem dX6_step_214 : decode cX6_step 214 = .ok (.goto (-74), 3) := by decide +kernel
theorem dX6_step_217 : decode cX6_step 217 = .ok (.aload_n 0, 1) := by decide +kernel
theorem dX6_step_218 : decode cX6_step 218 = .ok (.iconst 2, 1) := by decide +kernel
theorem dX6_step_219 : decode cX6_step 219 = .ok (.putfield 84, 3) := by decide +kernel
theorem dX6_step_222 : decode cX6_step 222 = .ok (.aload_n 0, 1) := by decide +kernel
theorem dX6_step_223 : decode cX6_step 223 = .ok (.getfield 87, 3) := by decide +kernel
theorem dX6_step_226 : decode cX6_step 226 = .ok (.aload_n 0, 1) := by decide +kernel
theorem dX6_step_227 : decode cX6_step 227 = .ok (.getfield 78, 3) := by decide +kernel
theorem dX6_step_230 : decode cX6_step 230 = .ok (.isub, 1) := by decide +kernel
theorem dX6_step_231 : decode cX6_step 231 = .ok (.iconst 2, 1) := by decide +kernel
theorem dX6_step_232 : decode cX6_step 232 = .ok (.if_icmp .le 37, 3) := by decide +kernel
theorem dX6_step_235 : decode cX6_step 235 = .ok (.aload_n 0, 1) := by decide +kernel
theorem dX6_step_236 : decode cX6_step 236 = .ok (.iconst 1, 1) := by decide +kernel
theorem dX6_step_237 : decode cX6_step 237 = .ok (.invokevirtual 105, 3) := by decide +kernel
theorem dX6_step_240 : decode cX6_step 240 = .ok (.goto 29, 3) := by decide +kernel
theorem dX6_step_243 : decode cX6_step 243 = .ok (.aload_n 0, 1) := by decide +kernel
theorem dX6_step_244 : decode cX6_step 244 = .ok (.iconst 3, 1) := by decide +kernel
theorem dX6_step_245 : decode cX6_step 245 = .ok (.putfield 84, 3) := by decide +kernel
theorem dX6_step_248 : decode cX6_step 248 = .ok (.aload_n 0, 1) := by decide +kernel
theorem dX6_step_249 : decode cX6_step 249 = .ok (.dup, 1) := by decide +kernel
theorem dX6_step_250 : decode cX6_step 250 = .ok (.getfield 87, 3) := by decide +kernel
theorem dX6_step_253 : decode cX6_step 253 = .ok (.iconst 1, 1) := by decide +kernel
theorem dX6_step_254 : decode cX6_step 254 = .ok (.iadd, 1) := by decide +kernel
theorem dX6_step_255 : decode cX6_step 255 = .ok (.putfield 87, 3) := by decide +kernel
theorem dX6_step_258 : decode cX6_step 258 = .ok (.iload_n 1, 1) := by decide +kernel
theorem dX6_step_259 : decode cX6_step 259 = .ok (.bipush 59, 2) := by decide +kernel
theorem dX6_step_261 : decode cX6_step 261 = .ok (.if_icmp .eq 8, 3) := by decide +kernel
theorem dX6_step_264 : decode cX6_step 264 = .ok (.aload_n 0, 1) := by decide +kernel
theorem dX6_step_265 : decode cX6_step 265 = .ok (.iconst 1, 1) := by decide +kernel
theorem dX6_step_266 : decode cX6_step 266 = .ok (.invokevirtual 105, 3) := by decide +kernel
theorem dX6_step_269 : decode cX6_step 269 = .ok (.return_, 1) := by decide +kernel
theorem dX6_other_0 : decode cX6_other 0 = .ok (.aload_n 0, 1) := by decide +kernel
theorem dX6_other_1 : decode cX6_other 1 = .ok (.getfield 75, 3) := by decide +kernel
theorem dX6_other_4 : decode cX6_other 4 = .ok (.ifCond .ne 16, 3) := by decide +kernel
theorem dX6_other_7 : decode cX6_other 7 = .ok (.aload_n 0, 1) := by decide +kernel
theorem dX6_other_8 : decode cX6_other 8 = .ok (.getfield 84, 3) := by decide +kernel
theorem dX6_other_11 : decode cX6_other 11 = .ok (.iconst 2, 1) := by decide +kernel
theorem dX6_other_12 : decode cX6_other 12 = .ok (.if_icmp .eq 8, 3) := by decide +kernel
theorem dX6_other_15 : decode cX6_other 15 = .ok (.aload_n 0, 1) := by decide +kernel
theorem dX6_other_16 : decode cX6_other 16 = .ok (.iconst 2, 1) := by decide +kernel
theorem dX6_other_17 : decode cX6_other 17 = .ok (.invokevirtual 105, 3) := by decide +kernel
theorem dX6_other_20 : decode cX6_other 20 = .ok (.aload_n 0, 1) := by decide +kernel
theorem dX6_other_21 : decode cX6_other 21 = .ok (.getfield 75, 3) := by decide +kernel
theorem dX6_other_24 : decode cX6_other 24 = .ok (.ifCond .ne 23, 3) := by decide +kernel
theorem dX6_other_27 : decode cX6_other 27 = .ok (.aload_n 0, 1) := by decide +kernel
theorem dX6_other_28 : decode cX6_other 28 = .ok (.getfield 94, 3) := by decide +kernel
theorem dX6_other_31 : decode cX6_other 31 = .ok (.i2l, 1) := by decide +kernel
theorem dX6_other_32 : decode cX6_other 32 = .ok (.iload_n 1, 1) := by decide +kernel
theorem dX6_other_33 : decode cX6_other 33 = .ok (.i2l, 1) := by decide +kernel
theorem dX6_other_34 : decode cX6_other 34 = .ok (.iload_n 2, 1) := by decide +kernel
theorem dX6_other_35 : decode cX6_other 35 = .ok (.i2l, 1) := by decide +kernel
theorem dX6_other_36 : decode cX6_other 36 = .ok (.invokestatic 68, 3) := by decide +kernel
theorem dX6_other_39 : decode cX6_other 39 = .ok (.ifCond .ne 8, 3) := by decide +kernel
theorem dX6_other_42 : decode cX6_other 42 = .ok (.aload_n 0, 1) := by decide +kernel
theorem dX6_other_43 : decode cX6_other 43 = .ok (.iconst 3, 1) := by decide +kernel
theorem dX6_other_44 : decode cX6_other 44 = .ok (.invokevirtual 105, 3) := by decide +kernel
theorem dX6_other_47 : decode cX6_other 47 = .ok (.aload_n 0, 1) := by decide +kernel
theorem dX6_other_48 : decode cX6_other 48 = .ok (.getfield 75, 3) := by decide +kernel
theorem dX6_other_51 : decode cX6_other 51 = .ok (.ifCond .ne 20, 3) := by decide +kernel
theorem dX6_other_54 : decode cX6_other 54 = .ok (.iload_n 3, 1) := by decide +kernel
theorem dX6_other_55 : decode cX6_other 55 = .ok (.aload_n 0, 1) := by decide +kernel
theorem dX6_other_56 : decode cX6_other 56 = .ok (.getfield 94, 3) := by decide +kernel
theorem dX6_other_59 : decode cX6_other 59 = .ok (.ishr, 1) := by decide +kernel
theorem dX6_other_60 : decode cX6_other 60 = .ok (.iconst 1, 1) := by decide +kernel
theorem dX6_other_61 : decode cX6_other 61 = .ok (.iand, 1) := by decide +kernel
theorem dX6_other_62 : decode cX6_other 62 = .ok (.iconst 1, 1) := by decide +kernel
theorem dX6_other_63 : decode cX6_other 63 = .ok (.if_icmp .ne 8, 3) := by decide +kernel
theorem dX6_other_66 : decode cX6_other 66 = .ok (.aload_n 0, 1) := by decide +kernel
theorem dX6_other_67 : decode cX6_other 67 = .ok (.iconst 4, 1) := by decide +kernel
theorem dX6_other_68 : decode cX6_other 68 = .ok (.invokevirtual 105, 3) := by decide +kernel
theorem dX6_other_71 : decode cX6_other 71 = .ok (.aload_n 0, 1) := by decide +kernel
theorem dX6_other_72 : decode cX6_other 72 = .ok (.getfield 75, 3) := by decide +kernel
theorem dX6_other_75 : decode cX6_other 75 = .ok (.ifCond .ne 10, 3) := by decide +kernel
theorem dX6_other_78 : decode cX6_other 78 = .ok (.aload_n 0, 1) := by decide +kernel
theorem dX6_other_79 : decode cX6_other 79 = .ok (.getfield 94, 3) := by decide +kernel
theorem dX6_other_82 : decode cX6_other 82 = .ok (.goto 4, 3) := by decide +kernel
theorem dX6_other_85 : decode cX6_other 85 = .ok (.iload_n 1, 1) := by decide +kernel
theorem dX6_other_86 : decode cX6_other 86 = .ok (.istore 4, 2) := by decide +kernel
theorem dX6_other_88 : decode cX6_other 88 = .ok (.aload_n 0, 1) := by decide +kernel
theorem dX6_other_89 : decode cX6_other 89 = .ok (.invokevirtual 109, 3) := by decide +kernel
theorem dX6_other_92 : decode cX6_other 92 = .ok (.iload 4, 2) := by decide +kernel
theorem dX6_other_94 : decode cX6_other 94 = .ok (.ireturn, 1) := by decide +kernel
theorem dX6_partHere_0 : decode cX6_partHere 0 = .ok (.aload_n 0, 1) := by decide +kernel
theorem dX6_partHere_1 : decode cX6_partHere 1 = .ok (.iconst 0, 1) := by decide +kernel
theorem dX6_partHere_2 : decode cX6_partHere 2 = .ok (.iconst 5, 1) := by decide +kernel
theorem dX6_partHere_3 : decode cX6_partHere 3 = .ok (.iload_n 1, 1) := by decide +kernel
theorem dX6_partHere_4 : decode cX6_partHere 4 = .ok (.invokevirtual 112, 3) := by decide +kernel
theorem dX6_partHere_7 : decode cX6_partHere 7 = .ok (.istore_n 2, 1) := by decide +kernel
theorem dX6_partHere_8 : decode cX6_partHere 8 = .ok (.aload_n 0, 1) := by decide +kernel
theorem dX6_partHere_9 : decode cX6_partHere 9 = .ok (.iload_n 2, 1) := by decide +kernel
theorem dX6_partHere_10 : decode cX6_partHere 10 = .ok (.aload_n 0, 1) := by decide +kernel
theorem dX6_partHere_11 : decode cX6_partHere 11 = .ok (.getfield 116, 3) := by decide +kernel
theorem dX6_partHere_14 : decode cX6_partHere 14 = .ok (.if_icmp .le 7, 3) := by decide +kernel
theorem dX6_partHere_17 : decode cX6_partHere 17 = .ok (.iload_n 2, 1) := by decide +kernel
theorem dX6_partHere_18 : decode cX6_partHere 18 = .ok (.goto 7, 3) := by decide +kernel
theorem dX6_partHere_21 : decode cX6_partHere 21 = .ok (.aload_n 0, 1) := by decide +kernel
theorem dX6_partHere_22 : decode cX6_partHere 22 = .ok (.getfield 116, 3) := by decide +kernel
theorem dX6_partHere_25 : decode cX6_partHere 25 = .ok (.putfield 116, 3) := by decide +kernel
theorem dX6_partHere_28 : decode cX6_partHere 28 = .ok (.iload_n 2, 1) := by decide +kernel
theorem dX6_partHere_29 : decode cX6_partHere 29 = .ok (.ireturn, 1) := by decide +kernel
theorem dX6_sitterHere_0 : decode cX6_sitterHere 0 = .ok (.aload_n 0, 1) := by decide +kernel
theorem dX6_sitterHere_1 : decode cX6_sitterHere 1 = .ok (.iconst 0, 1) := by decide +kernel
theorem dX6_sitterHere_2 : decode cX6_sitterHere 2 = .ok (.iconst 4, 1) := by decide +kernel
theorem dX6_sitterHere_3 : decode cX6_sitterHere 3 = .ok (.iload_n 1, 1) := by decide +kernel
theorem dX6_sitterHere_4 : decode cX6_sitterHere 4 = .ok (.invokevirtual 112, 3) := by decide +kernel
theorem dX6_sitterHere_7 : decode cX6_sitterHere 7 = .ok (.istore_n 2, 1) := by decide +kernel
theorem dX6_sitterHere_8 : decode cX6_sitterHere 8 = .ok (.aload_n 0, 1) := by decide +kernel
theorem dX6_sitterHere_9 : decode cX6_sitterHere 9 = .ok (.iload_n 2, 1) := by decide +kernel
theorem dX6_sitterHere_10 : decode cX6_sitterHere 10 = .ok (.aload_n 0, 1) := by decide +kernel
theorem dX6_sitterHere_11 : decode cX6_sitterHere 11 = .ok (.getfield 119, 3) := by decide +kernel
theorem dX6_sitterHere_14 : decode cX6_sitterHere 14 = .ok (.if_icmp .le 7, 3) := by decide +kernel
theorem dX6_sitterHere_17 : decode cX6_sitterHere 17 = .ok (.iload_n 2, 1) := by decide +kernel
theorem dX6_sitterHere_18 : decode cX6_sitterHere 18 = .ok (.goto 7, 3) := by decide +kernel
theorem dX6_sitterHere_21 : decode cX6_sitterHere 21 = .ok (.aload_n 0, 1) := by decide +kernel
theorem dX6_sitterHere_22 : decode cX6_sitterHere 22 = .ok (.getfield 119, 3) := by decide +kernel
theorem dX6_sitterHere_25 : decode cX6_sitterHere 25 = .ok (.putfield 119, 3) := by decide +kernel
theorem dX6_sitterHere_28 : decode cX6_sitterHere 28 = .ok (.iload_n 2, 1) := by decide +kernel
theorem dX6_sitterHere_29 : decode cX6_sitterHere 29 = .ok (.ireturn, 1) := by decide +kernel
theorem dX6_readSitter_0 : decode cX6_readSitter 0 = .ok (.aload_n 0, 1) := by decide +kernel
theorem dX6_readSitter_1 : decode cX6_readSitter 1 = .ok (.getfield 23, 3) := by decide +kernel
theorem dX6_readSitter_4 : decode cX6_readSitter 4 = .ok (.bipush 36, 2) := by decide +kernel
theorem dX6_readSitter_6 : decode cX6_readSitter 6 = .ok (.aload_n 0, 1) := by decide +kernel
theorem dX6_readSitter_7 : decode cX6_readSitter 7 = .ok (.getfield 122, 3) := by decide +kernel
theorem dX6_readSitter_10 : decode cX6_readSitter 10 = .ok (.iadd, 1) := by decide +kernel
theorem dX6_readSitter_11 : decode cX6_readSitter 11 = .ok (.iload_n 1, 1) := by decide +kernel
theorem dX6_readSitter_12 : decode cX6_readSitter 12 = .ok (.iastore, 1) := by decide +kernel
theorem dX6_readSitter_13 : decode cX6_readSitter 13 = .ok (.aload_n 0, 1) := by decide +kernel
theorem dX6_readSitter_14 : decode cX6_readSitter 14 = .ok (.getfield 23, 3) := by decide +kernel
theorem dX6_readSitter_17 : decode cX6_readSitter 17 = .ok (.bipush 41, 2) := by decide +kernel
theorem dX6_readSitter_19 : decode cX6_readSitter 19 = .ok (.aload_n 0, 1) := by decide +kernel
theorem dX6_readSitter_20 : decode cX6_readSitter 20 = .ok (.getfield 122, 3) := by decide +kernel
theorem dX6_readSitter_23 : decode cX6_readSitter 23 = .ok (.iadd, 1) := by decide +kernel
theorem dX6_readSitter_24 : decode cX6_readSitter 24 = .ok (.aload_n 0, 1) := by decide +kernel
theorem dX6_readSitter_25 : decode cX6_readSitter 25 = .ok (.iconst 0, 1) := by decide +kernel
theorem dX6_readSitter_26 : decode cX6_readSitter 26 = .ok (.iconst 5, 1) := by decide +kernel
theorem dX6_readSitter_27 : decode cX6_readSitter 27 = .ok (.iconst 0, 1) := by decide +kernel
theorem dX6_readSitter_28 : decode cX6_readSitter 28 = .ok (.invokevirtual 112, 3) := by decide +kernel
theorem dX6_readSitter_31 : decode cX6_readSitter 31 = .ok (.iastore, 1) := by decide +kernel
theorem dX6_readSitter_32 : decode cX6_readSitter 32 = .ok (.aload_n 0, 1) := by decide +kernel
theorem dX6_readSitter_33 : decode cX6_readSitter 33 = .ok (.getfield 23, 3) := by decide +kernel
theorem dX6_readSitter_36 : decode cX6_readSitter 36 = .ok (.bipush 46, 2) := by decide +kernel
theorem dX6_readSitter_38 : decode cX6_readSitter 38 = .ok (.aload_n 0, 1) := by decide +kernel
theorem dX6_readSitter_39 : decode cX6_readSitter 39 = .ok (.getfield 122, 3) := by decide +kernel
theorem dX6_readSitter_42 : decode cX6_readSitter 42 = .ok (.iadd, 1) := by decide +kernel
theorem dX6_readSitter_43 : decode cX6_readSitter 43 = .ok (.aload_n 0, 1) := by decide +kernel
theorem dX6_readSitter_44 : decode cX6_readSitter 44 = .ok (.iconst 0, 1) := by decide +kernel
theorem dX6_readSitter_45 : decode cX6_readSitter 45 = .ok (.bipush 9, 2) := by decide +kernel
theorem dX6_readSitter_47 : decode cX6_readSitter 47 = .ok (.iconst 0, 1) := by decide +kernel
theorem dX6_readSitter_48 : decode cX6_readSitter 48 = .ok (.invokevirtual 112, 3) := by decide +kernel
theorem dX6_readSitter_51 : decode cX6_readSitter 51 = .ok (.iastore, 1) := by decide +kernel
theorem dX6_readSitter_52 : decode cX6_readSitter 52 = .ok (.iconst 0, 1) := by decide +kernel
theorem dX6_readSitter_53 : decode cX6_readSitter 53 = .ok (.istore_n 2, 1) := by decide +kernel
theorem dX6_readSitter_54 : decode cX6_readSitter 54 = .ok (.aload_n 0, 1) := by decide +kernel
theorem dX6_readSitter_55 : decode cX6_readSitter 55 = .ok (.getfield 75, 3) := by decide +kernel
theorem dX6_readSitter_58 : decode cX6_readSitter 58 = .ok (.ifCond .ne 27, 3) := by decide +kernel
theorem dX6_readSitter_61 : decode cX6_readSitter 61 = .ok (.aload_n 0, 1) := by decide +kernel
theorem dX6_readSitter_62 : decode cX6_readSitter 62 = .ok (.getfield 84, 3) := by decide +kernel
theorem dX6_readSitter_65 : decode cX6_readSitter 65 = .ok (.iconst 2, 1) := by decide +kernel
theorem dX6_readSitter_66 : decode cX6_readSitter 66 = .ok (.if_icmp .ne 19, 3) := by decide +kernel
theorem dX6_readSitter_69 : decode cX6_readSitter 69 = .ok (.iload_n 2, 1) := by decide +kernel
theorem dX6_readSitter_70 : decode cX6_readSitter 70 = .ok (.iconst 1, 1) := by decide +kernel
theorem dX6_readSitter_71 : decode cX6_readSitter 71 = .ok (.aload_n 0, 1) := by decide +kernel
theorem dX6_readSitter_72 : decode cX6_readSitter 72 = .ok (.iconst 0, 1) := by decide +kernel
theorem dX6_readSitter_73 : decode cX6_readSitter 73 = .ok (.bipush 6, 2) := by decide +kernel
theorem dX6_readSitter_75 : decode cX6_readSitter 75 = .ok (.iload_n 2, 1) := by decide +kernel
theorem dX6_readSitter_76 : decode cX6_readSitter 76 = .ok (.invokevirtual 112, 3) := by decide +kernel
theorem dX6_readSitter_79 : decode cX6_readSitter 79 = .ok (.ishl, 1) := by decide +kernel
theorem dX6_readSitter_80 : decode cX6_readSitter 80 = .ok (.ior, 1) := by decide +kernel
theorem dX6_readSitter_81 : decode cX6_readSitter 81 = .ok (.istore_n 2, 1) := by decide +kernel
theorem dX6_readSitter_82 : decode cX6_readSitter 82 = .ok (.goto (-28), 3) := by decide +kernel
theorem dX6_readSitter_85 : decode cX6_readSitter 85 = .ok (.aload_n 0, 1) := by decide +kernel
theorem dX6_readSitter_86 : decode cX6_readSitter 86 = .ok (.getfield 23, 3) := by decide +kernel
theorem dX6_readSitter_89 : decode cX6_readSitter 89 = .ok (.bipush 51, 2) := by decide +kernel
theorem dX6_readSitter_91 : decode cX6_readSitter 91 = .ok (.aload_n 0, 1) := by decide +kernel
theorem dX6_readSitter_92 : decode cX6_readSitter 92 = .ok (.getfield 122, 3) := by decide +kernel
theorem dX6_readSitter_95 : decode cX6_readSitter 95 = .ok (.iadd, 1) := by decide +kernel
theorem dX6_readSitter_96 : decode cX6_readSitter 96 = .ok (.iload_n 2, 1) := by decide +kernel
theorem dX6_readSitter_97 : decode cX6_readSitter 97 = .ok (.iastore, 1) := by decide +kernel
theorem dX6_readSitter_98 : decode cX6_readSitter 98 = .ok (.aload_n 0, 1) := by decide +kernel
theorem dX6_readSitter_99 : decode cX6_readSitter 99 = .ok (.dup, 1) := by decide +kernel
theorem dX6_readSitter_100 : decode cX6_readSitter 100 = .ok (.getfield 122, 3) := by decide +kernel
theorem dX6_readSitter_103 : decode cX6_readSitter 103 = .ok (.iconst 1, 1) := by decide +kernel
theorem dX6_readSitter_104 : decode cX6_readSitter 104 = .ok (.iadd, 1) := by decide +kernel
theorem dX6_readSitter_105 : decode cX6_readSitter 105 = .ok (.putfield 122, 3) := by decide +kernel
theorem dX6_readSitter_108 : decode cX6_readSitter 108 = .ok (.return_, 1) := by decide +kernel
theorem dX6_readBond_0 : decode cX6_readBond 0 = .ok (.aload_n 0, 1) := by decide +kernel
theorem dX6_readBond_1 : decode cX6_readBond 1 = .ok (.iconst 0, 1) := by decide +kernel
theorem dX6_readBond_2 : decode cX6_readBond 2 = .ok (.invokevirtual 125, 3) := by decide +kernel
theorem dX6_readBond_5 : decode cX6_readBond 5 = .ok (.istore_n 1, 1) := by decide +kernel
theorem dX6_readBond_6 : decode cX6_readBond 6 = .ok (.aload_n 0, 1) := by decide +kernel
theorem dX6_readBond_7 : decode cX6_readBond 7 = .ok (.getfield 75, 3) := by decide +kernel
theorem dX6_readBond_10 : decode cX6_readBond 10 = .ok (.ifCond .ne 24, 3) := by decide +kernel
theorem dX6_readBond_13 : decode cX6_readBond 13 = .ok (.aload_n 0, 1) := by decide +kernel
theorem dX6_readBond_14 : decode cX6_readBond 14 = .ok (.getfield 84, 3) := by decide +kernel
theorem dX6_readBond_17 : decode cX6_readBond 17 = .ok (.iconst 2, 1) := by decide +kernel
theorem dX6_readBond_18 : decode cX6_readBond 18 = .ok (.if_icmp .ne 16, 3) := by decide +kernel
theorem dX6_readBond_21 : decode cX6_readBond 21 = .ok (.aload_n 0, 1) := by decide +kernel
theorem dX6_readBond_22 : decode cX6_readBond 22 = .ok (.getfield 94, 3) := by decide +kernel
theorem dX6_readBond_25 : decode cX6_readBond 25 = .ok (.iload_n 1, 1) := by decide +kernel
theorem dX6_readBond_26 : decode cX6_readBond 26 = .ok (.if_icmp .ne 8, 3) := by decide +kernel
theorem dX6_readBond_29 : decode cX6_readBond 29 = .ok (.aload_n 0, 1) := by decide +kernel
theorem dX6_readBond_30 : decode cX6_readBond 30 = .ok (.iconst 3, 1) := by decide +kernel
theorem dX6_readBond_31 : decode cX6_readBond 31 = .ok (.invokevirtual 105, 3) := by decide +kernel
theorem dX6_readBond_34 : decode cX6_readBond 34 = .ok (.aload_n 0, 1) := by decide +kernel
theorem dX6_readBond_35 : decode cX6_readBond 35 = .ok (.getfield 26, 3) := by decide +kernel
theorem dX6_readBond_38 : decode cX6_readBond 38 = .ok (.iconst 2, 1) := by decide +kernel
theorem dX6_readBond_39 : decode cX6_readBond 39 = .ok (.aload_n 0, 1) := by decide +kernel
theorem dX6_readBond_40 : decode cX6_readBond 40 = .ok (.getfield 128, 3) := by decide +kernel
theorem dX6_readBond_43 : decode cX6_readBond 43 = .ok (.imul, 1) := by decide +kernel
theorem dX6_readBond_44 : decode cX6_readBond 44 = .ok (.iload_n 1, 1) := by decide +kernel
theorem dX6_readBond_45 : decode cX6_readBond 45 = .ok (.iastore, 1) := by decide +kernel
theorem dX6_readBond_46 : decode cX6_readBond 46 = .ok (.aload_n 0, 1) := by decide +kernel
theorem dX6_readBond_47 : decode cX6_readBond 47 = .ok (.getfield 26, 3) := by decide +kernel
theorem dX6_readBond_50 : decode cX6_readBond 50 = .ok (.iconst 2, 1) := by decide +kernel
theorem dX6_readBond_51 : decode cX6_readBond 51 = .ok (.aload_n 0, 1) := by decide +kernel
theorem dX6_readBond_52 : decode cX6_readBond 52 = .ok (.getfield 128, 3) := by decide +kernel
theorem dX6_readBond_55 : decode cX6_readBond 55 = .ok (.imul, 1) := by decide +kernel
theorem dX6_readBond_56 : decode cX6_readBond 56 = .ok (.iconst 1, 1) := by decide +kernel
theorem dX6_readBond_57 : decode cX6_readBond 57 = .ok (.iadd, 1) := by decide +kernel
theorem dX6_readBond_58 : decode cX6_readBond 58 = .ok (.aload_n 0, 1) := by decide +kernel
theorem dX6_readBond_59 : decode cX6_readBond 59 = .ok (.iconst 0, 1) := by decide +kernel
theorem dX6_readBond_60 : decode cX6_readBond 60 = .ok (.invokevirtual 125, 3) := by decide +kernel
theorem dX6_readBond_63 : decode cX6_readBond 63 = .ok (.iastore, 1) := by decide +kernel
theorem dX6_readBond_64 : decode cX6_readBond 64 = .ok (.aload_n 0, 1) := by decide +kernel
theorem dX6_readBond_65 : decode cX6_readBond 65 = .ok (.dup, 1) := by decide +kernel
theorem dX6_readBond_66 : decode cX6_readBond 66 = .ok (.getfield 128, 3) := by decide +kernel
theorem dX6_readBond_69 : decode cX6_readBond 69 = .ok (.iconst 1, 1) := by decide +kernel
theorem dX6_readBond_70 : decode cX6_readBond 70 = .ok (.iadd, 1) := by decide +kernel
theorem dX6_readBond_71 : decode cX6_readBond 71 = .ok (.putfield 128, 3) := by decide +kernel
theorem dX6_readBond_74 : decode cX6_readBond 74 = .ok (.return_, 1) := by decide +kernel
theorem dX6_readPaint_0 : decode cX6_readPaint 0 = .ok (.aload_n 0, 1) := by decide +kernel
theorem dX6_readPaint_1 : decode cX6_readPaint 1 = .ok (.getfield 75, 3) := by decide +kernel
theorem dX6_readPaint_4 : decode cX6_readPaint 4 = .ok (.ifCond .ne 47, 3) := by decide +kernel
theorem dX6_readPaint_7 : decode cX6_readPaint 7 = .ok (.aload_n 0, 1) := by decide +kernel
theorem dX6_readPaint_8 : decode cX6_readPaint 8 = .ok (.getfield 84, 3) := by decide +kernel
theorem dX6_readPaint_11 : decode cX6_readPaint 11 = .ok (.iconst 2, 1) := by decide +kernel
theorem dX6_readPaint_12 : decode cX6_readPaint 12 = .ok (.if_icmp .ne 39, 3) := by decide +kernel
theorem dX6_readPaint_15 : decode cX6_readPaint 15 = .ok (.aload_n 0, 1) := by decide +kernel
theorem dX6_readPaint_16 : decode cX6_readPaint 16 = .ok (.getfield 94, 3) := by decide +kernel
theorem dX6_readPaint_19 : decode cX6_readPaint 19 = .ok (.i2l, 1) := by decide +kernel
theorem dX6_readPaint_20 : decode cX6_readPaint 20 = .ok (.lconst 0, 1) := by decide +kernel
theorem dX6_readPaint_21 : decode cX6_readPaint 21 = .ok (.ldc2_w 131, 3) := by decide +kernel
theorem dX6_readPaint_24 : decode cX6_readPaint 24 = .ok (.invokestatic 68, 3) := by decide +kernel
theorem dX6_readPaint_27 : decode cX6_readPaint 27 = .ok (.ifCond .eq 24, 3) := by decide +kernel
theorem dX6_readPaint_30 : decode cX6_readPaint 30 = .ok (.aload_n 0, 1) := by decide +kernel
theorem dX6_readPaint_31 : decode cX6_readPaint 31 = .ok (.getfield 23, 3) := by decide +kernel
theorem dX6_readPaint_34 : decode cX6_readPaint 34 = .ok (.bipush 6, 2) := by decide +kernel
theorem dX6_readPaint_36 : decode cX6_readPaint 36 = .ok (.aload_n 0, 1) := by decide +kernel
theorem dX6_readPaint_37 : decode cX6_readPaint 37 = .ok (.getfield 94, 3) := by decide +kernel
theorem dX6_readPaint_40 : decode cX6_readPaint 40 = .ok (.iadd, 1) := by decide +kernel
theorem dX6_readPaint_41 : decode cX6_readPaint 41 = .ok (.iaload, 1) := by decide +kernel
theorem dX6_readPaint_42 : decode cX6_readPaint 42 = .ok (.iconst 4, 1) := by decide +kernel
theorem dX6_readPaint_43 : decode cX6_readPaint 43 = .ok (.if_icmp .ne 8, 3) := by decide +kernel
theorem dX6_readPaint_46 : decode cX6_readPaint 46 = .ok (.aload_n 0, 1) := by decide +kernel
theorem dX6_readPaint_47 : decode cX6_readPaint 47 = .ok (.iconst 5, 1) := by decide +kernel
theorem dX6_readPaint_48 : decode cX6_readPaint 48 = .ok (.invokevirtual 105, 3) := by decide +kernel
theorem dX6_readPaint_51 : decode cX6_readPaint 51 = .ok (.aload_n 0, 1) := by decide +kernel
theorem dX6_readPaint_52 : decode cX6_readPaint 52 = .ok (.iconst 0, 1) := by decide +kernel
theorem dX6_readPaint_53 : decode cX6_readPaint 53 = .ok (.invokevirtual 125, 3) := by decide +kernel
theorem dX6_readPaint_56 : decode cX6_readPaint 56 = .ok (.istore_n 1, 1) := by decide +kernel
theorem dX6_readPaint_57 : decode cX6_readPaint 57 = .ok (.aload_n 0, 1) := by decide +kernel
theorem dX6_readPaint_58 : decode cX6_readPaint 58 = .ok (.iconst 0, 1) := by decide +kernel
theorem dX6_readPaint_59 : decode cX6_readPaint 59 = .ok (.invokevirtual 133, 3) := by decide +kernel
theorem dX6_readPaint_62 : decode cX6_readPaint 62 = .ok (.istore_n 2, 1) := by decide +kernel
theorem dX6_readPaint_63 : decode cX6_readPaint 63 = .ok (.aload_n 0, 1) := by decide +kernel
theorem dX6_readPaint_64 : decode cX6_readPaint 64 = .ok (.getfield 75, 3) := by decide +kernel
theorem dX6_readPaint_67 : decode cX6_readPaint 67 = .ok (.ifCond .ne 38, 3) := by decide +kernel
theorem dX6_readPaint_70 : decode cX6_readPaint 70 = .ok (.aload_n 0, 1) := by decide +kernel
theorem dX6_readPaint_71 : decode cX6_readPaint 71 = .ok (.getfield 23, 3) := by decide +kernel
theorem dX6_readPaint_74 : decode cX6_readPaint 74 = .ok (.bipush 12, 2) := by decide +kernel
theorem dX6_readPaint_76 : decode cX6_readPaint 76 = .ok (.iconst 4, 1) := by decide +kernel
theorem dX6_readPaint_77 : decode cX6_readPaint 77 = .ok (.iload_n 1, 1) := by decide +kernel
theorem dX6_readPaint_78 : decode cX6_readPaint 78 = .ok (.imul, 1) := by decide +kernel
theorem dX6_readPaint_79 : decode cX6_readPaint 79 = .ok (.iadd, 1) := by decide +kernel
theorem dX6_readPaint_80 : decode cX6_readPaint 80 = .ok (.aload_n 0, 1) := by decide +kernel
theorem dX6_readPaint_81 : decode cX6_readPaint 81 = .ok (.getfield 23, 3) := by decide +kernel
theorem dX6_readPaint_84 : decode cX6_readPaint 84 = .ok (.bipush 6, 2) := by decide +kernel
theorem dX6_readPaint_86 : decode cX6_readPaint 86 = .ok (.iload_n 1, 1) := by decide +kernel
theorem dX6_readPaint_87 : decode cX6_readPaint 87 = .ok (.iadd, 1) := by decide +kernel
theorem dX6_readPaint_88 : decode cX6_readPaint 88 = .ok (.iaload, 1) := by decide +kernel
theorem dX6_readPaint_89 : decode cX6_readPaint 89 = .ok (.iadd, 1) := by decide +kernel
theorem dX6_readPaint_90 : decode cX6_readPaint 90 = .ok (.iload_n 2, 1) := by decide +kernel
theorem dX6_readPaint_91 : decode cX6_readPaint 91 = .ok (.iastore, 1) := by decide +kernel
theorem dX6_readPaint_92 : decode cX6_readPaint 92 = .ok (.aload_n 0, 1) := by decide +kernel
theorem dX6_readPaint_93 : decode cX6_readPaint 93 = .ok (.getfield 23, 3) := by decide +kernel
theorem dX6_readPaint_96 : decode cX6_readPaint 96 = .ok (.bipush 6, 2) := by decide +kernel
theorem dX6_readPaint_98 : decode cX6_readPaint 98 = .ok (.iload_n 1, 1) := by decide +kernel
theorem dX6_readPaint_99 : decode cX6_readPaint 99 = .ok (.iadd, 1) := by decide +kernel
theorem dX6_readPaint_100 : decode cX6_readPaint 100 = .ok (.dup2, 1) := by decide +kernel
theorem dX6_readPaint_101 : decode cX6_readPaint 101 = .ok (.iaload, 1) := by decide +kernel
theorem dX6_readPaint_102 : decode cX6_readPaint 102 = .ok (.iconst 1, 1) := by decide +kernel
theorem dX6_readPaint_103 : decode cX6_readPaint 103 = .ok (.iadd, 1) := by decide +kernel
theorem dX6_readPaint_104 : decode cX6_readPaint 104 = .ok (.iastore, 1) := by decide +kernel
theorem dX6_readPaint_105 : decode cX6_readPaint 105 = .ok (.return_, 1) := by decide +kernel
theorem dX6_readForger_0 : decode cX6_readForger 0 = .ok (.iconst 0, 1) := by decide +kernel
theorem dX6_readForger_1 : decode cX6_readForger 1 = .ok (.istore_n 1, 1) := by decide +kernel
theorem dX6_readForger_2 : decode cX6_readForger 2 = .ok (.aload_n 0, 1) := by decide +kernel
theorem dX6_readForger_3 : decode cX6_readForger 3 = .ok (.getfield 75, 3) := by decide +kernel
theorem dX6_readForger_6 : decode cX6_readForger 6 = .ok (.ifCond .ne 24, 3) := by decide +kernel
theorem dX6_readForger_9 : decode cX6_readForger 9 = .ok (.aload_n 0, 1) := by decide +kernel
theorem dX6_readForger_10 : decode cX6_readForger 10 = .ok (.getfield 84, 3) := by decide +kernel
theorem dX6_readForger_13 : decode cX6_readForger 13 = .ok (.iconst 2, 1) := by decide +kernel
theorem dX6_readForger_14 : decode cX6_readForger 14 = .ok (.if_icmp .ne 16, 3) := by decide +kernel
theorem dX6_readForger_17 : decode cX6_readForger 17 = .ok (.iload_n 1, 1) := by decide +kernel
theorem dX6_readForger_18 : decode cX6_readForger 18 = .ok (.iconst 1, 1) := by decide +kernel
theorem dX6_readForger_19 : decode cX6_readForger 19 = .ok (.aload_n 0, 1) := by decide +kernel
theorem dX6_readForger_20 : decode cX6_readForger 20 = .ok (.iload_n 1, 1) := by decide +kernel
theorem dX6_readForger_21 : decode cX6_readForger 21 = .ok (.invokevirtual 133, 3) := by decide +kernel
theorem dX6_readForger_24 : decode cX6_readForger 24 = .ok (.ishl, 1) := by decide +kernel
theorem dX6_readForger_25 : decode cX6_readForger 25 = .ok (.ior, 1) := by decide +kernel
theorem dX6_readForger_26 : decode cX6_readForger 26 = .ok (.istore_n 1, 1) := by decide +kernel
theorem dX6_readForger_27 : decode cX6_readForger 27 = .ok (.goto (-25), 3) := by decide +kernel
theorem dX6_readForger_30 : decode cX6_readForger 30 = .ok (.aload_n 0, 1) := by decide +kernel
theorem dX6_readForger_31 : decode cX6_readForger 31 = .ok (.getfield 29, 3) := by decide +kernel
theorem dX6_readForger_34 : decode cX6_readForger 34 = .ok (.aload_n 0, 1) := by decide +kernel
theorem dX6_readForger_35 : decode cX6_readForger 35 = .ok (.getfield 136, 3) := by decide +kernel
theorem dX6_readForger_38 : decode cX6_readForger 38 = .ok (.iload_n 1, 1) := by decide +kernel
theorem dX6_readForger_39 : decode cX6_readForger 39 = .ok (.iastore, 1) := by decide +kernel
theorem dX6_readForger_40 : decode cX6_readForger 40 = .ok (.aload_n 0, 1) := by decide +kernel
theorem dX6_readForger_41 : decode cX6_readForger 41 = .ok (.dup, 1) := by decide +kernel
theorem dX6_readForger_42 : decode cX6_readForger 42 = .ok (.getfield 136, 3) := by decide +kernel
theorem dX6_readForger_45 : decode cX6_readForger 45 = .ok (.iconst 1, 1) := by decide +kernel
theorem dX6_readForger_46 : decode cX6_readForger 46 = .ok (.iadd, 1) := by decide +kernel
theorem dX6_readForger_47 : decode cX6_readForger 47 = .ok (.putfield 136, 3) := by decide +kernel
theorem dX6_readForger_50 : decode cX6_readForger 50 = .ok (.return_, 1) := by decide +kernel
theorem dX6_readWorth_0 : decode cX6_readWorth 0 = .ok (.aload_n 0, 1) := by decide +kernel
theorem dX6_readWorth_1 : decode cX6_readWorth 1 = .ok (.aload_n 0, 1) := by decide +kernel
theorem dX6_readWorth_2 : decode cX6_readWorth 2 = .ok (.getfield 139, 3) := by decide +kernel
theorem dX6_readWorth_5 : decode cX6_readWorth 5 = .ok (.invokevirtual 125, 3) := by decide +kernel
theorem dX6_readWorth_8 : decode cX6_readWorth 8 = .ok (.istore_n 1, 1) := by decide +kernel
theorem dX6_readWorth_9 : decode cX6_readWorth 9 = .ok (.aload_n 0, 1) := by decide +kernel
theorem dX6_readWorth_10 : decode cX6_readWorth 10 = .ok (.dup, 1) := by decide +kernel
theorem dX6_readWorth_11 : decode cX6_readWorth 11 = .ok (.getfield 139, 3) := by decide +kernel
theorem dX6_readWorth_14 : decode cX6_readWorth 14 = .ok (.iconst 1, 1) := by decide +kernel
theorem dX6_readWorth_15 : decode cX6_readWorth 15 = .ok (.iload_n 1, 1) := by decide +kernel
theorem dX6_readWorth_16 : decode cX6_readWorth 16 = .ok (.ishl, 1) := by decide +kernel
theorem dX6_readWorth_17 : decode cX6_readWorth 17 = .ok (.ior, 1) := by decide +kernel
theorem dX6_readWorth_18 : decode cX6_readWorth 18 = .ok (.putfield 139, 3) := by decide +kernel
theorem dX6_readWorth_21 : decode cX6_readWorth 21 = .ok (.aload_n 0, 1) := by decide +kernel
theorem dX6_readWorth_22 : decode cX6_readWorth 22 = .ok (.getfield 23, 3) := by decide +kernel
theorem dX6_readWorth_25 : decode cX6_readWorth 25 = .ok (.iload_n 1, 1) := by decide +kernel
theorem dX6_readWorth_26 : decode cX6_readWorth 26 = .ok (.aload_n 0, 1) := by decide +kernel
theorem dX6_readWorth_27 : decode cX6_readWorth 27 = .ok (.iconst 0, 1) := by decide +kernel
theorem dX6_readWorth_28 : decode cX6_readWorth 28 = .ok (.bipush 9, 2) := by decide +kernel
theorem dX6_readWorth_30 : decode cX6_readWorth 30 = .ok (.iconst 0, 1) := by decide +kernel
theorem dX6_readWorth_31 : decode cX6_readWorth 31 = .ok (.invokevirtual 112, 3) := by decide +kernel
theorem dX6_readWorth_34 : decode cX6_readWorth 34 = .ok (.iconst 1, 1) := by decide +kernel
theorem dX6_readWorth_35 : decode cX6_readWorth 35 = .ok (.isub, 1) := by decide +kernel
theorem dX6_readWorth_36 : decode cX6_readWorth 36 = .ok (.iastore, 1) := by decide +kernel
theorem dX6_readWorth_37 : decode cX6_readWorth 37 = .ok (.return_, 1) := by decide +kernel
theorem dX6_readMore_0 : decode cX6_readMore 0 = .ok (.iload_n 1, 1) := by decide +kernel
theorem dX6_readMore_1 : decode cX6_readMore 1 = .ok (.tableswitch 78 4 8 #[35, 50, 57, 64, 71], 35) := by decide +kernel
theorem dX6_readMore_36 : decode cX6_readMore 36 = .ok (.aload_n 0, 1) := by decide +kernel
theorem dX6_readMore_37 : decode cX6_readMore 37 = .ok (.aload_n 0, 1) := by decide +kernel
theorem dX6_readMore_38 : decode cX6_readMore 38 = .ok (.iconst 2, 1) := by decide +kernel
theorem dX6_readMore_39 : decode cX6_readMore 39 = .ok (.bipush 6, 2) := by decide +kernel
theorem dX6_readMore_41 : decode cX6_readMore 41 = .ok (.iconst 0, 1) := by decide +kernel
theorem dX6_readMore_42 : decode cX6_readMore 42 = .ok (.invokevirtual 112, 3) := by decide +kernel
theorem dX6_readMore_45 : decode cX6_readMore 45 = .ok (.putfield 142, 3) := by decide +kernel
theorem dX6_readMore_48 : decode cX6_readMore 48 = .ok (.goto 36, 3) := by decide +kernel
theorem dX6_readMore_51 : decode cX6_readMore 51 = .ok (.aload_n 0, 1) := by decide +kernel
theorem dX6_readMore_52 : decode cX6_readMore 52 = .ok (.invokevirtual 145, 3) := by decide +kernel
theorem dX6_readMore_55 : decode cX6_readMore 55 = .ok (.goto 29, 3) := by decide +kernel
theorem dX6_readMore_58 : decode cX6_readMore 58 = .ok (.aload_n 0, 1) := by decide +kernel
theorem dX6_readMore_59 : decode cX6_readMore 59 = .ok (.invokevirtual 148, 3) := by decide +kernel
theorem dX6_readMore_62 : decode cX6_readMore 62 = .ok (.goto 22, 3) := by decide +kernel
theorem dX6_readMore_65 : decode cX6_readMore 65 = .ok (.aload_n 0, 1) := by decide +kernel
theorem dX6_readMore_66 : decode cX6_readMore 66 = .ok (.invokevirtual 151, 3) := by decide +kernel
theorem dX6_readMore_69 : decode cX6_readMore 69 = .ok (.goto 15, 3) := by decide +kernel
theorem dX6_readMore_72 : decode cX6_readMore 72 = .ok (.aload_n 0, 1) := by decide +kernel
theorem dX6_readMore_73 : decode cX6_readMore 73 = .ok (.invokevirtual 154, 3) := by decide +kernel
theorem dX6_readMore_76 : decode cX6_readMore 76 = .ok (.goto 8, 3) := by decide +kernel
theorem dX6_readMore_79 : decode cX6_readMore 79 = .ok (.aload_n 0, 1) := by decide +kernel
theorem dX6_readMore_80 : decode cX6_readMore 80 = .ok (.iload_n 1, 1) := by decide +kernel
theorem dX6_readMore_81 : decode cX6_readMore 81 = .ok (.invokevirtual 157, 3) := by decide +kernel
theorem dX6_readMore_84 : decode cX6_readMore 84 = .ok (.return_, 1) := by decide +kernel
theorem dX6_readLine_0 : decode cX6_readLine 0 = .ok (.aload_n 0, 1) := by decide +kernel
theorem dX6_readLine_1 : decode cX6_readLine 1 = .ok (.invokevirtual 160, 3) := by decide +kernel
theorem dX6_readLine_4 : decode cX6_readLine 4 = .ok (.istore_n 1, 1) := by decide +kernel
theorem dX6_readLine_5 : decode cX6_readLine 5 = .ok (.iload_n 1, 1) := by decide +kernel
theorem dX6_readLine_6 : decode cX6_readLine 6 = .ok (.i2l, 1) := by decide +kernel
theorem dX6_readLine_7 : decode cX6_readLine 7 = .ok (.lconst 0, 1) := by decide +kernel
theorem dX6_readLine_8 : decode cX6_readLine 8 = .ok (.ldc2_w 164, 3) := by decide +kernel
theorem dX6_readLine_11 : decode cX6_readLine 11 = .ok (.invokestatic 68, 3) := by decide +kernel
theorem dX6_readLine_14 : decode cX6_readLine 14 = .ok (.ifCond .ne 9, 3) := by decide +kernel
theorem dX6_readLine_17 : decode cX6_readLine 17 = .ok (.aload_n 0, 1) := by decide +kernel
theorem dX6_readLine_18 : decode cX6_readLine 18 = .ok (.iconst 2, 1) := by decide +kernel
theorem dX6_readLine_19 : decode cX6_readLine 19 = .ok (.invokevirtual 105, 3) := by decide +kernel
theorem dX6_readLine_22 : decode cX6_readLine 22 = .ok (.return_, 1) := by decide +kernel
theorem dX6_readLine_23 : decode cX6_readLine 23 = .ok (.iload_n 1, 1) := by decide +kernel
theorem dX6_readLine_24 : decode cX6_readLine 24 = .ok (.iconst 3, 1) := by decide +kernel
theorem dX6_readLine_25 : decode cX6_readLine 25 = .ok (.if_icmp .gt 11, 3) := by decide +kernel
theorem dX6_readLine_28 : decode cX6_readLine 28 = .ok (.aload_n 0, 1) := by decide +kernel
theorem dX6_readLine_29 : decode cX6_readLine 29 = .ok (.getfield 122, 3) := by decide +kernel
theorem dX6_readLine_32 : decode cX6_readLine 32 = .ok (.iconst 5, 1) := by decide +kernel
theorem dX6_readLine_33 : decode cX6_readLine 33 = .ok (.if_icmp .eq 31, 3) := by decide +kernel
theorem dX6_readLine_36 : decode cX6_readLine 36 = .ok (.iload_n 1, 1) := by decide +kernel
theorem dX6_readLine_37 : decode cX6_readLine 37 = .ok (.bipush 6, 2) := by decide +kernel
theorem dX6_readLine_39 : decode cX6_readLine 39 = .ok (.if_icmp .ne 11, 3) := by decide +kernel
theorem dX6_readLine_42 : decode cX6_readLine 42 = .ok (.aload_n 0, 1) := by decide +kernel
theorem dX6_readLine_43 : decode cX6_readLine 43 = .ok (.getfield 128, 3) := by decide +kernel
theorem dX6_readLine_46 : decode cX6_readLine 46 = .ok (.iconst 5, 1) := by decide +kernel
theorem dX6_readLine_47 : decode cX6_readLine 47 = .ok (.if_icmp .eq 17, 3) := by decide +kernel
theorem dX6_readLine_50 : decode cX6_readLine 50 = .ok (.iload_n 1, 1) := by decide +kernel
theorem dX6_readLine_51 : decode cX6_readLine 51 = .ok (.bipush 7, 2) := by decide +kernel
theorem dX6_readLine_53 : decode cX6_readLine 53 = .ok (.if_icmp .ne 16, 3) := by decide +kernel
theorem dX6_readLine_56 : decode cX6_readLine 56 = .ok (.aload_n 0, 1) := by decide +kernel
theorem dX6_readLine_57 : decode cX6_readLine 57 = .ok (.getfield 136, 3) := by decide +kernel
theorem dX6_readLine_60 : decode cX6_readLine 60 = .ok (.iconst 4, 1) := by decide +kernel
theorem dX6_readLine_61 : decode cX6_readLine 61 = .ok (.if_icmp .ne 8, 3) := by decide +kernel
theorem dX6_readLine_64 : decode cX6_readLine 64 = .ok (.aload_n 0, 1) := by decide +kernel
theorem dX6_readLine_65 : decode cX6_readLine 65 = .ok (.iconst 5, 1) := by decide +kernel
theorem dX6_readLine_66 : decode cX6_readLine 66 = .ok (.invokevirtual 105, 3) := by decide +kernel
theorem dX6_readLine_69 : decode cX6_readLine 69 = .ok (.iload_n 1, 1) := by decide +kernel
theorem dX6_readLine_70 : decode cX6_readLine 70 = .ok (.iconst 4, 1) := by decide +kernel
theorem dX6_readLine_71 : decode cX6_readLine 71 = .ok (.if_icmp .ne 15, 3) := by decide +kernel
theorem dX6_readLine_74 : decode cX6_readLine 74 = .ok (.aload_n 0, 1) := by decide +kernel
theorem dX6_readLine_75 : decode cX6_readLine 75 = .ok (.getfield 166, 3) := by decide +kernel
theorem dX6_readLine_78 : decode cX6_readLine 78 = .ok (.ifCond .eq 8, 3) := by decide +kernel
theorem dX6_readLine_81 : decode cX6_readLine 81 = .ok (.aload_n 0, 1) := by decide +kernel
theorem dX6_readLine_82 : decode cX6_readLine 82 = .ok (.iconst 4, 1) := by decide +kernel
theorem dX6_readLine_83 : decode cX6_readLine 83 = .ok (.invokevirtual 105, 3) := by decide +kernel
theorem dX6_readLine_86 : decode cX6_readLine 86 = .ok (.aload_n 0, 1) := by decide +kernel
theorem dX6_readLine_87 : decode cX6_readLine 87 = .ok (.aload_n 0, 1) := by decide +kernel
theorem dX6_readLine_88 : decode cX6_readLine 88 = .ok (.getfield 166, 3) := by decide +kernel
theorem dX6_readLine_91 : decode cX6_readLine 91 = .ok (.ifCond .ne 8, 3) := by decide +kernel
theorem dX6_readLine_94 : decode cX6_readLine 94 = .ok (.iload_n 1, 1) := by decide +kernel
theorem dX6_readLine_95 : decode cX6_readLine 95 = .ok (.iconst 4, 1) := by decide +kernel
theorem dX6_readLine_96 : decode cX6_readLine 96 = .ok (.if_icmp .ne 7, 3) := by decide +kernel
theorem dX6_readLine_99 : decode cX6_readLine 99 = .ok (.iconst 1, 1) := by decide +kernel
theorem dX6_readLine_100 : decode cX6_readLine 100 = .ok (.goto 4, 3) := by decide +kernel
theorem dX6_readLine_103 : decode cX6_readLine 103 = .ok (.iconst 0, 1) := by decide +kernel
theorem dX6_readLine_104 : decode cX6_readLine 104 = .ok (.putfield 166, 3) := by decide +kernel
theorem dX6_readLine_107 : decode cX6_readLine 107 = .ok (.aload_n 0, 1) := by decide +kernel
theorem dX6_readLine_108 : decode cX6_readLine 108 = .ok (.invokevirtual 109, 3) := by decide +kernel
theorem dX6_readLine_111 : decode cX6_readLine 111 = .ok (.aload_n 0, 1) := by decide +kernel
theorem dX6_readLine_112 : decode cX6_readLine 112 = .ok (.getfield 75, 3) := by decide +kernel
theorem dX6_readLine_115 : decode cX6_readLine 115 = .ok (.ifCond .le 4, 3) := by decide +kernel
theorem dX6_readLine_118 : decode cX6_readLine 118 = .ok (.return_, 1) := by decide +kernel
theorem dX6_readLine_119 : decode cX6_readLine 119 = .ok (.aload_n 0, 1) := by decide +kernel
theorem dX6_readLine_120 : decode cX6_readLine 120 = .ok (.iload_n 1, 1) := by decide +kernel
theorem dX6_readLine_121 : decode cX6_readLine 121 = .ok (.invokevirtual 170, 3) := by decide +kernel
theorem dX6_readLine_124 : decode cX6_readLine 124 = .ok (.aload_n 0, 1) := by decide +kernel
theorem dX6_readLine_125 : decode cX6_readLine 125 = .ok (.getfield 75, 3) := by decide +kernel
theorem dX6_readLine_128 : decode cX6_readLine 128 = .ok (.ifCond .ne 16, 3) := by decide +kernel
theorem dX6_readLine_131 : decode cX6_readLine 131 = .ok (.aload_n 0, 1) := by decide +kernel
theorem dX6_readLine_132 : decode cX6_readLine 132 = .ok (.getfield 84, 3) := by decide +kernel
theorem dX6_readLine_135 : decode cX6_readLine 135 = .ok (.iconst 3, 1) := by decide +kernel
theorem dX6_readLine_136 : decode cX6_readLine 136 = .ok (.if_icmp .eq 8, 3) := by decide +kernel
theorem dX6_readLine_139 : decode cX6_readLine 139 = .ok (.aload_n 0, 1) := by decide +kernel
theorem dX6_readLine_140 : decode cX6_readLine 140 = .ok (.iconst 2, 1) := by decide +kernel
theorem dX6_readLine_141 : decode cX6_readLine 141 = .ok (.invokevirtual 105, 3) := by decide +kernel
theorem dX6_readLine_144 : decode cX6_readLine 144 = .ok (.aload_n 0, 1) := by decide +kernel
theorem dX6_readLine_145 : decode cX6_readLine 145 = .ok (.invokevirtual 109, 3) := by decide +kernel
theorem dX6_readLine_148 : decode cX6_readLine 148 = .ok (.return_, 1) := by decide +kernel
theorem dX6_begins_0 : decode cX6_begins 0 = .ok (.aload_n 0, 1) := by decide +kernel
theorem dX6_begins_1 : decode cX6_begins 1 = .ok (.iconst 0, 1) := by decide +kernel
theorem dX6_begins_2 : decode cX6_begins 2 = .ok (.putfield 75, 3) := by decide +kernel
theorem dX6_begins_5 : decode cX6_begins 5 = .ok (.aload_n 0, 1) := by decide +kernel
theorem dX6_begins_6 : decode cX6_begins 6 = .ok (.iconst 0, 1) := by decide +kernel
theorem dX6_begins_7 : decode cX6_begins 7 = .ok (.putfield 87, 3) := by decide +kernel
theorem dX6_begins_10 : decode cX6_begins 10 = .ok (.aload_n 0, 1) := by decide +kernel
theorem dX6_begins_11 : decode cX6_begins 11 = .ok (.iconst 4, 1) := by decide +kernel
theorem dX6_begins_12 : decode cX6_begins 12 = .ok (.putfield 142, 3) := by decide +kernel
theorem dX6_begins_15 : decode cX6_begins 15 = .ok (.aload_n 0, 1) := by decide +kernel
theorem dX6_begins_16 : decode cX6_begins 16 = .ok (.iconst 0, 1) := by decide +kernel
theorem dX6_begins_17 : decode cX6_begins 17 = .ok (.putfield 122, 3) := by decide +kernel
theorem dX6_begins_20 : decode cX6_begins 20 = .ok (.aload_n 0, 1) := by decide +kernel
theorem dX6_begins_21 : decode cX6_begins 21 = .ok (.iconst 0, 1) := by decide +kernel
theorem dX6_begins_22 : decode cX6_begins 22 = .ok (.putfield 128, 3) := by decide +kernel
theorem dX6_begins_25 : decode cX6_begins 25 = .ok (.aload_n 0, 1) := by decide +kernel
theorem dX6_begins_26 : decode cX6_begins 26 = .ok (.iconst 0, 1) := by decide +kernel
theorem dX6_begins_27 : decode cX6_begins 27 = .ok (.putfield 136, 3) := by decide +kernel
theorem dX6_begins_30 : decode cX6_begins 30 = .ok (.aload_n 0, 1) := by decide +kernel
theorem dX6_begins_31 : decode cX6_begins 31 = .ok (.iconst 0, 1) := by decide +kernel
theorem dX6_begins_32 : decode cX6_begins 32 = .ok (.putfield 166, 3) := by decide +kernel
theorem dX6_begins_35 : decode cX6_begins 35 = .ok (.aload_n 0, 1) := by decide +kernel
theorem dX6_begins_36 : decode cX6_begins 36 = .ok (.iconst 0, 1) := by decide +kernel
theorem dX6_begins_37 : decode cX6_begins 37 = .ok (.putfield 139, 3) := by decide +kernel
theorem dX6_begins_40 : decode cX6_begins 40 = .ok (.aload_n 0, 1) := by decide +kernel
theorem dX6_begins_41 : decode cX6_begins 41 = .ok (.iconst (-1), 1) := by decide +kernel
theorem dX6_begins_42 : decode cX6_begins 42 = .ok (.putfield 116, 3) := by decide +kernel
theorem dX6_begins_45 : decode cX6_begins 45 = .ok (.aload_n 0, 1) := by decide +kernel
theorem dX6_begins_46 : decode cX6_begins 46 = .ok (.iconst (-1), 1) := by decide +kernel
theorem dX6_begins_47 : decode cX6_begins 47 = .ok (.putfield 119, 3) := by decide +kernel
theorem dX6_begins_50 : decode cX6_begins 50 = .ok (.iconst 0, 1) := by decide +kernel
theorem dX6_begins_51 : decode cX6_begins 51 = .ok (.istore_n 1, 1) := by decide +kernel
theorem dX6_begins_52 : decode cX6_begins 52 = .ok (.iload_n 1, 1) := by decide +kernel
theorem dX6_begins_53 : decode cX6_begins 53 = .ok (.bipush 63, 2) := by decide +kernel
theorem dX6_begins_55 : decode cX6_begins 55 = .ok (.if_icmp .ge 16, 3) := by decide +kernel
theorem dX6_begins_58 : decode cX6_begins 58 = .ok (.aload_n 0, 1) := by decide +kernel
theorem dX6_begins_59 : decode cX6_begins 59 = .ok (.getfield 23, 3) := by decide +kernel
theorem dX6_begins_62 : decode cX6_begins 62 = .ok (.iload_n 1, 1) := by decide +kernel
theorem dX6_begins_63 : decode cX6_begins 63 = .ok (.iconst 0, 1) := by decide +kernel
theorem dX6_begins_64 : decode cX6_begins 64 = .ok (.iastore, 1) := by decide +kernel
theorem dX6_begins_65 : decode cX6_begins 65 = .ok (.iinc 1 1, 3) := by decide +kernel
theorem dX6_begins_68 : decode cX6_begins 68 = .ok (.goto (-16), 3) := by decide +kernel
theorem dX6_begins_71 : decode cX6_begins 71 = .ok (.return_, 1) := by decide +kernel
theorem dX6_text_0 : decode cX6_text 0 = .ok (.iconst 0, 1) := by decide +kernel
theorem dX6_text_1 : decode cX6_text 1 = .ok (.istore_n 1, 1) := by decide +kernel
theorem dX6_text_2 : decode cX6_text 2 = .ok (.aload_n 0, 1) := by decide +kernel
theorem dX6_text_3 : decode cX6_text 3 = .ok (.invokevirtual 173, 3) := by decide +kernel
theorem dX6_text_6 : decode cX6_text 6 = .ok (.aload_n 0, 1) := by decide +kernel
theorem dX6_text_7 : decode cX6_text 7 = .ok (.invokevirtual 109, 3) := by decide +kernel
theorem dX6_text_10 : decode cX6_text 10 = .ok (.aload_n 0, 1) := by decide +kernel
theorem dX6_text_11 : decode cX6_text 11 = .ok (.getfield 75, 3) := by decide +kernel
theorem dX6_text_14 : decode cX6_text 14 = .ok (.ifCond .ne 20, 3) := by decide +kernel
theorem dX6_text_17 : decode cX6_text 17 = .ok (.aload_n 0, 1) := by decide +kernel
theorem dX6_text_18 : decode cX6_text 18 = .ok (.getfield 84, 3) := by decide +kernel
theorem dX6_text_21 : decode cX6_text 21 = .ok (.ifCond .eq 13, 3) := by decide +kernel
theorem dX6_text_24 : decode cX6_text 24 = .ok (.aload_n 0, 1) := by decide +kernel
theorem dX6_text_25 : decode cX6_text 25 = .ok (.invokevirtual 176, 3) := by decide +kernel
theorem dX6_text_28 : decode cX6_text 28 = .ok (.iinc 1 1, 3) := by decide +kernel
theorem dX6_text_31 : decode cX6_text 31 = .ok (.goto (-21), 3) := by decide +kernel
theorem dX6_text_34 : decode cX6_text 34 = .ok (.aload_n 0, 1) := by decide +kernel
theorem dX6_text_35 : decode cX6_text 35 = .ok (.getfield 75, 3) := by decide +kernel
theorem dX6_text_38 : decode cX6_text 38 = .ok (.ifCond .ne 31, 3) := by decide +kernel
theorem dX6_text_41 : decode cX6_text 41 = .ok (.aload_n 0, 1) := by decide +kernel
theorem dX6_text_42 : decode cX6_text 42 = .ok (.getfield 116, 3) := by decide +kernel
theorem dX6_text_45 : decode cX6_text 45 = .ok (.aload_n 0, 1) := by decide +kernel
theorem dX6_text_46 : decode cX6_text 46 = .ok (.getfield 142, 3) := by decide +kernel
theorem dX6_text_49 : decode cX6_text 49 = .ok (.if_icmp .ge 14, 3) := by decide +kernel
theorem dX6_text_52 : decode cX6_text 52 = .ok (.aload_n 0, 1) := by decide +kernel
theorem dX6_text_53 : decode cX6_text 53 = .ok (.getfield 119, 3) := by decide +kernel
theorem dX6_text_56 : decode cX6_text 56 = .ok (.aload_n 0, 1) := by decide +kernel
theorem dX6_text_57 : decode cX6_text 57 = .ok (.getfield 122, 3) := by decide +kernel
theorem dX6_text_60 : decode cX6_text 60 = .ok (.if_icmp .lt 9, 3) := by decide +kernel
theorem dX6_text_63 : decode cX6_text 63 = .ok (.aload_n 0, 1) := by decide +kernel
theorem dX6_text_64 : decode cX6_text 64 = .ok (.bipush 6, 2) := by decide +kernel
theorem dX6_text_66 : decode cX6_text 66 = .ok (.invokevirtual 105, 3) := by decide +kernel
theorem dX6_text_69 : decode cX6_text 69 = .ok (.aload_n 0, 1) := by decide +kernel
theorem dX6_text_70 : decode cX6_text 70 = .ok (.iconst 0, 1) := by decide +kernel
theorem dX6_text_71 : decode cX6_text 71 = .ok (.putfield 72, 3) := by decide +kernel
theorem dX6_text_74 : decode cX6_text 74 = .ok (.aload_n 0, 1) := by decide +kernel
theorem dX6_text_75 : decode cX6_text 75 = .ok (.aload_n 0, 1) := by decide +kernel
theorem dX6_text_76 : decode cX6_text 76 = .ok (.getfield 75, 3) := by decide +kernel
theorem dX6_text_79 : decode cX6_text 79 = .ok (.putfield 179, 3) := by decide +kernel
theorem dX6_text_82 : decode cX6_text 82 = .ok (.aload_n 0, 1) := by decide +kernel
theorem dX6_text_83 : decode cX6_text 83 = .ok (.getfield 75, 3) := by decide +kernel
theorem dX6_text_86 : decode cX6_text 86 = .ok (.ifCond .le 11, 3) := by decide +kernel
theorem dX6_text_89 : decode cX6_text 89 = .ok (.bipush (-10), 2) := by decide +kernel
theorem dX6_text_91 : decode cX6_text 91 = .ok (.aload_n 0, 1) := by decide +kernel
theorem dX6_text_92 : decode cX6_text 92 = .ok (.getfield 81, 3) := by decide +kernel
theorem dX6_text_95 : decode cX6_text 95 = .ok (.isub, 1) := by decide +kernel
theorem dX6_text_96 : decode cX6_text 96 = .ok (.ireturn, 1) := by decide +kernel
theorem dX6_text_97 : decode cX6_text 97 = .ok (.iconst 0, 1) := by decide +kernel
theorem dX6_text_98 : decode cX6_text 98 = .ok (.istore_n 2, 1) := by decide +kernel
theorem dX6_text_99 : decode cX6_text 99 = .ok (.iload_n 2, 1) := by decide +kernel
theorem dX6_text_100 : decode cX6_text 100 = .ok (.bipush 63, 2) := by decide +kernel
theorem dX6_text_102 : decode cX6_text 102 = .ok (.if_icmp .ge 55, 3) := by decide +kernel
theorem dX6_text_105 : decode cX6_text 105 = .ok (.aload_n 0, 1) := by decide +kernel
theorem dX6_text_106 : decode cX6_text 106 = .ok (.getfield 7, 3) := by decide +kernel
theorem dX6_text_109 : decode cX6_text 109 = .ok (.iload_n 2, 1) := by decide +kernel
theorem dX6_text_110 : decode cX6_text 110 = .ok (.aload_n 0, 1) := by decide +kernel
theorem dX6_text_111 : decode cX6_text 111 = .ok (.getfield 23, 3) := by decide +kernel
theorem dX6_text_114 : decode cX6_text 114 = .ok (.iload_n 2, 1) := by decide +kernel
theorem dX6_text_115 : decode cX6_text 115 = .ok (.iaload, 1) := by decide +kernel
theorem dX6_text_116 : decode cX6_text 116 = .ok (.iastore, 1) := by decide +kernel
theorem dX6_text_117 : decode cX6_text 117 = .ok (.aload_n 0, 1) := by decide +kernel
theorem dX6_text_118 : decode cX6_text 118 = .ok (.getfield 17, 3) := by decide +kernel
theorem dX6_text_121 : decode cX6_text 121 = .ok (.iload_n 2, 1) := by decide +kernel
theorem dX6_text_122 : decode cX6_text 122 = .ok (.bipush 10, 2) := by decide +kernel
theorem dX6_text_124 : decode cX6_text 124 = .ok (.irem, 1) := by decide +kernel
theorem dX6_text_125 : decode cX6_text 125 = .ok (.aload_n 0, 1) := by decide +kernel
theorem dX6_text_126 : decode cX6_text 126 = .ok (.getfield 26, 3) := by decide +kernel
theorem dX6_text_129 : decode cX6_text 129 = .ok (.iload_n 2, 1) := by decide +kernel
theorem dX6_text_130 : decode cX6_text 130 = .ok (.bipush 10, 2) := by decide +kernel
theorem dX6_text_132 : decode cX6_text 132 = .ok (.irem, 1) := by decide +kernel
theorem dX6_text_133 : decode cX6_text 133 = .ok (.iaload, 1) := by decide +kernel
theorem dX6_text_134 : decode cX6_text 134 = .ok (.iastore, 1) := by decide +kernel
theorem dX6_text_135 : decode cX6_text 135 = .ok (.aload_n 0, 1) := by decide +kernel
theorem dX6_text_136 : decode cX6_text 136 = .ok (.getfield 20, 3) := by decide +kernel
theorem dX6_text_139 : decode cX6_text 139 = .ok (.iload_n 2, 1) := by decide +kernel
theorem dX6_text_140 : decode cX6_text 140 = .ok (.iconst 4, 1) := by decide +kernel
theorem dX6_text_141 : decode cX6_text 141 = .ok (.irem, 1) := by decide +kernel
theorem dX6_text_142 : decode cX6_text 142 = .ok (.aload_n 0, 1) := by decide +kernel
theorem dX6_text_143 : decode cX6_text 143 = .ok (.getfield 29, 3) := by decide +kernel
theorem dX6_text_146 : decode cX6_text 146 = .ok (.iload_n 2, 1) := by decide +kernel
theorem dX6_text_147 : decode cX6_text 147 = .ok (.iconst 4, 1) := by decide +kernel
theorem dX6_text_148 : decode cX6_text 148 = .ok (.irem, 1) := by decide +kernel
theorem dX6_text_149 : decode cX6_text 149 = .ok (.iaload, 1) := by decide +kernel
theorem dX6_text_150 : decode cX6_text 150 = .ok (.iastore, 1) := by decide +kernel
theorem dX6_text_151 : decode cX6_text 151 = .ok (.iinc 2 1, 3) := by decide +kernel
theorem dX6_text_154 : decode cX6_text 154 = .ok (.goto (-55), 3) := by decide +kernel
theorem dX6_text_157 : decode cX6_text 157 = .ok (.aload_n 0, 1) := by decide +kernel
theorem dX6_text_158 : decode cX6_text 158 = .ok (.aload_n 0, 1) := by decide +kernel
theorem dX6_text_159 : decode cX6_text 159 = .ok (.getfield 142, 3) := by decide +kernel
theorem dX6_text_162 : decode cX6_text 162 = .ok (.putfield 13, 3) := by decide +kernel
theorem dX6_text_165 : decode cX6_text 165 = .ok (.aload_n 0, 1) := by decide +kernel
theorem dX6_text_166 : decode cX6_text 166 = .ok (.aload_n 0, 1) := by decide +kernel
theorem dX6_text_167 : decode cX6_text 167 = .ok (.getfield 122, 3) := by decide +kernel
theorem dX6_text_170 : decode cX6_text 170 = .ok (.putfield 182, 3) := by decide +kernel
theorem dX6_text_173 : decode cX6_text 173 = .ok (.aload_n 0, 1) := by decide +kernel
theorem dX6_text_174 : decode cX6_text 174 = .ok (.aload_n 0, 1) := by decide +kernel
theorem dX6_text_175 : decode cX6_text 175 = .ok (.getfield 128, 3) := by decide +kernel
theorem dX6_text_178 : decode cX6_text 178 = .ok (.putfield 185, 3) := by decide +kernel
theorem dX6_text_181 : decode cX6_text 181 = .ok (.aload_n 0, 1) := by decide +kernel
theorem dX6_text_182 : decode cX6_text 182 = .ok (.aload_n 0, 1) := by decide +kernel
theorem dX6_text_183 : decode cX6_text 183 = .ok (.getfield 136, 3) := by decide +kernel
theorem dX6_text_186 : decode cX6_text 186 = .ok (.putfield 188, 3) := by decide +kernel
theorem dX6_text_189 : decode cX6_text 189 = .ok (.aload_n 0, 1) := by decide +kernel
theorem dX6_text_190 : decode cX6_text 190 = .ok (.iconst 0, 1) := by decide +kernel
theorem dX6_text_191 : decode cX6_text 191 = .ok (.putfield 191, 3) := by decide +kernel
theorem dX6_text_194 : decode cX6_text 194 = .ok (.aload_n 0, 1) := by decide +kernel
theorem dX6_text_195 : decode cX6_text 195 = .ok (.getfield 53, 3) := by decide +kernel
theorem dX6_text_198 : decode cX6_text 198 = .ok (.iconst 0, 1) := by decide +kernel
theorem dX6_text_199 : decode cX6_text 199 = .ok (.iconst 0, 1) := by decide +kernel
theorem dX6_text_200 : decode cX6_text 200 = .ok (.bastore, 1) := by decide +kernel
theorem dX6_text_201 : decode cX6_text 201 = .ok (.aload_n 0, 1) := by decide +kernel
theorem dX6_text_202 : decode cX6_text 202 = .ok (.getfield 53, 3) := by decide +kernel
theorem dX6_text_205 : decode cX6_text 205 = .ok (.iconst 1, 1) := by decide +kernel
theorem dX6_text_206 : decode cX6_text 206 = .ok (.iconst 0, 1) := by decide +kernel
theorem dX6_text_207 : decode cX6_text 207 = .ok (.bastore, 1) := by decide +kernel
theorem dX6_text_208 : decode cX6_text 208 = .ok (.iload_n 1, 1) := by decide +kernel
theorem dX6_text_209 : decode cX6_text 209 = .ok (.ireturn, 1) := by decide +kernel
theorem dX6_fault_0 : decode cX6_fault 0 = .ok (.aload_n 0, 1) := by decide +kernel
theorem dX6_fault_1 : decode cX6_fault 1 = .ok (.getfield 179, 3) := by decide +kernel
theorem dX6_fault_4 : decode cX6_fault 4 = .ok (.ireturn, 1) := by decide +kernel
theorem dX6_isPart_0 : decode cX6_isPart 0 = .ok (.iload_n 1, 1) := by decide +kernel
theorem dX6_isPart_1 : decode cX6_isPart 1 = .ok (.i2l, 1) := by decide +kernel
theorem dX6_isPart_2 : decode cX6_isPart 2 = .ok (.lconst 0, 1) := by decide +kernel
theorem dX6_isPart_3 : decode cX6_isPart 3 = .ok (.aload_n 0, 1) := by decide +kernel
theorem dX6_isPart_4 : decode cX6_isPart 4 = .ok (.getfield 13, 3) := by decide +kernel
theorem dX6_isPart_7 : decode cX6_isPart 7 = .ok (.iconst 1, 1) := by decide +kernel
theorem dX6_isPart_8 : decode cX6_isPart 8 = .ok (.isub, 1) := by decide +kernel
theorem dX6_isPart_9 : decode cX6_isPart 9 = .ok (.i2l, 1) := by decide +kernel
theorem dX6_isPart_10 : decode cX6_isPart 10 = .ok (.invokestatic 68, 3) := by decide +kernel
theorem dX6_isPart_13 : decode cX6_isPart 13 = .ok (.ireturn, 1) := by decide +kernel
theorem dX6_isSitter_0 : decode cX6_isSitter 0 = .ok (.iload_n 1, 1) := by decide +kernel
theorem dX6_isSitter_1 : decode cX6_isSitter 1 = .ok (.i2l, 1) := by decide +kernel
theorem dX6_isSitter_2 : decode cX6_isSitter 2 = .ok (.lconst 0, 1) := by decide +kernel
theorem dX6_isSitter_3 : decode cX6_isSitter 3 = .ok (.aload_n 0, 1) := by decide +kernel
theorem dX6_isSitter_4 : decode cX6_isSitter 4 = .ok (.getfield 182, 3) := by decide +kernel
theorem dX6_isSitter_7 : decode cX6_isSitter 7 = .ok (.iconst 1, 1) := by decide +kernel
theorem dX6_isSitter_8 : decode cX6_isSitter 8 = .ok (.isub, 1) := by decide +kernel
theorem dX6_isSitter_9 : decode cX6_isSitter 9 = .ok (.i2l, 1) := by decide +kernel
theorem dX6_isSitter_10 : decode cX6_isSitter 10 = .ok (.invokestatic 68, 3) := by decide +kernel
theorem dX6_isSitter_13 : decode cX6_isSitter 13 = .ok (.ireturn, 1) := by decide +kernel
theorem dX6_topOn_0 : decode cX6_topOn 0 = .ok (.aload_n 0, 1) := by decide +kernel
theorem dX6_topOn_1 : decode cX6_topOn 1 = .ok (.getfield 7, 3) := by decide +kernel
theorem dX6_topOn_4 : decode cX6_topOn 4 = .ok (.iload_n 1, 1) := by decide +kernel
theorem dX6_topOn_5 : decode cX6_topOn 5 = .ok (.bipush 6, 2) := by decide +kernel
theorem dX6_topOn_7 : decode cX6_topOn 7 = .ok (.iadd, 1) := by decide +kernel
theorem dX6_topOn_8 : decode cX6_topOn 8 = .ok (.iload_n 2, 1) := by decide +kernel
theorem dX6_topOn_9 : decode cX6_topOn 9 = .ok (.iadd, 1) := by decide +kernel
theorem dX6_topOn_10 : decode cX6_topOn 10 = .ok (.iaload, 1) := by decide +kernel
theorem dX6_topOn_11 : decode cX6_topOn 11 = .ok (.istore_n 3, 1) := by decide +kernel
theorem dX6_topOn_12 : decode cX6_topOn 12 = .ok (.iload_n 3, 1) := by decide +kernel
theorem dX6_topOn_13 : decode cX6_topOn 13 = .ok (.ifCond .ne 8, 3) := by decide +kernel
theorem dX6_topOn_16 : decode cX6_topOn 16 = .ok (.bipush (-4), 2) := by decide +kernel
theorem dX6_topOn_18 : decode cX6_topOn 18 = .ok (.goto 20, 3) := by decide +kernel
theorem dX6_topOn_21 : decode cX6_topOn 21 = .ok (.aload_n 0, 1) := by decide +kernel
theorem dX6_topOn_22 : decode cX6_topOn 22 = .ok (.getfield 7, 3) := by decide +kernel
theorem dX6_topOn_25 : decode cX6_topOn 25 = .ok (.iload_n 1, 1) := by decide +kernel
theorem dX6_topOn_26 : decode cX6_topOn 26 = .ok (.bipush 12, 2) := by decide +kernel
theorem dX6_topOn_28 : decode cX6_topOn 28 = .ok (.iadd, 1) := by decide +kernel
theorem dX6_topOn_29 : decode cX6_topOn 29 = .ok (.iconst 4, 1) := by decide +kernel
theorem dX6_topOn_30 : decode cX6_topOn 30 = .ok (.iload_n 2, 1) := by decide +kernel
theorem dX6_topOn_31 : decode cX6_topOn 31 = .ok (.imul, 1) := by decide +kernel
theorem dX6_topOn_32 : decode cX6_topOn 32 = .ok (.iadd, 1) := by decide +kernel
theorem dX6_topOn_33 : decode cX6_topOn 33 = .ok (.iload_n 3, 1) := by decide +kernel
theorem dX6_topOn_34 : decode cX6_topOn 34 = .ok (.iadd, 1) := by decide +kernel
theorem dX6_topOn_35 : decode cX6_topOn 35 = .ok (.iconst 1, 1) := by decide +kernel
theorem dX6_topOn_36 : decode cX6_topOn 36 = .ok (.isub, 1) := by decide +kernel
theorem dX6_topOn_37 : decode cX6_topOn 37 = .ok (.iaload, 1) := by decide +kernel
theorem dX6_topOn_38 : decode cX6_topOn 38 = .ok (.ireturn, 1) := by decide +kernel
theorem dX6_rule_0 : decode cX6_rule 0 = .ok (.iconst 0, 1) := by decide +kernel
theorem dX6_rule_1 : decode cX6_rule 1 = .ok (.istore_n 2, 1) := by decide +kernel
theorem dX6_rule_2 : decode cX6_rule 2 = .ok (.iconst 0, 1) := by decide +kernel
theorem dX6_rule_3 : decode cX6_rule 3 = .ok (.istore_n 3, 1) := by decide +kernel
theorem dX6_rule_4 : decode cX6_rule 4 = .ok (.iload_n 3, 1) := by decide +kernel
theorem dX6_rule_5 : decode cX6_rule 5 = .ok (.aload_n 0, 1) := by decide +kernel
theorem dX6_rule_6 : decode cX6_rule 6 = .ok (.getfield 13, 3) := by decide +kernel
theorem dX6_rule_9 : decode cX6_rule 9 = .ok (.if_icmp .ge 30, 3) := by decide +kernel
theorem dX6_rule_12 : decode cX6_rule 12 = .ok (.iload_n 2, 1) := by decide +kernel
theorem dX6_rule_13 : decode cX6_rule 13 = .ok (.aload_n 0, 1) := by decide +kernel
theorem dX6_rule_14 : decode cX6_rule 14 = .ok (.iconst 0, 1) := by decide +kernel
theorem dX6_rule_15 : decode cX6_rule 15 = .ok (.iload_n 3, 1) := by decide +kernel
theorem dX6_rule_16 : decode cX6_rule 16 = .ok (.invokevirtual 194, 3) := by decide +kernel
theorem dX6_rule_19 : decode cX6_rule 19 = .ok (.bipush (-4), 2) := by decide +kernel
theorem dX6_rule_21 : decode cX6_rule 21 = .ok (.if_icmp .ne 9, 3) := by decide +kernel
theorem dX6_rule_24 : decode cX6_rule 24 = .ok (.iconst 1, 1) := by decide +kernel
theorem dX6_rule_25 : decode cX6_rule 25 = .ok (.iload_n 3, 1) := by decide +kernel
theorem dX6_rule_26 : decode cX6_rule 26 = .ok (.ishl, 1) := by decide +kernel
theorem dX6_rule_27 : decode cX6_rule 27 = .ok (.goto 4, 3) := by decide +kernel
theorem dX6_rule_30 : decode cX6_rule 30 = .ok (.iconst 0, 1) := by decide +kernel
theorem dX6_rule_31 : decode cX6_rule 31 = .ok (.ior, 1) := by decide +kernel
theorem dX6_rule_32 : decode cX6_rule 32 = .ok (.istore_n 2, 1) := by decide +kernel
theorem dX6_rule_33 : decode cX6_rule 33 = .ok (.iinc 3 1, 3) := by decide +kernel
theorem dX6_rule_36 : decode cX6_rule 36 = .ok (.goto (-32), 3) := by decide +kernel
theorem dX6_rule_39 : decode cX6_rule 39 = .ok (.iload_n 1, 1) := by decide +kernel
theorem dX6_rule_40 : decode cX6_rule 40 = .ok (.tableswitch 99 0 6 #[44, 49, 54, 59, 64, 72, 97], 44) := by decide +kernel
theorem dX6_rule_84 : decode cX6_rule 84 = .ok (.aload_n 0, 1) := by decide +kernel
theorem dX6_rule_85 : decode cX6_rule 85 = .ok (.getfield 13, 3) := by decide +kernel
theorem dX6_rule_88 : decode cX6_rule 88 = .ok (.ireturn, 1) := by decide +kernel
theorem dX6_rule_89 : decode cX6_rule 89 = .ok (.aload_n 0, 1) := by decide +kernel
theorem dX6_rule_90 : decode cX6_rule 90 = .ok (.getfield 182, 3) := by decide +kernel
theorem dX6_rule_93 : decode cX6_rule 93 = .ok (.ireturn, 1) := by decide +kernel
theorem dX6_rule_94 : decode cX6_rule 94 = .ok (.aload_n 0, 1) := by decide +kernel
theorem dX6_rule_95 : decode cX6_rule 95 = .ok (.getfield 185, 3) := by decide +kernel
theorem dX6_rule_98 : decode cX6_rule 98 = .ok (.ireturn, 1) := by decide +kernel
theorem dX6_rule_99 : decode cX6_rule 99 = .ok (.aload_n 0, 1) := by decide +kernel
theorem dX6_rule_100 : decode cX6_rule 100 = .ok (.getfield 188, 3) := by decide +kernel
theorem dX6_rule_103 : decode cX6_rule 103 = .ok (.ireturn, 1) := by decide +kernel
theorem dX6_rule_104 : decode cX6_rule 104 = .ok (.aload_n 0, 1) := by decide +kernel
theorem dX6_rule_105 : decode cX6_rule 105 = .ok (.getfield 7, 3) := by decide +kernel
theorem dX6_rule_108 : decode cX6_rule 108 = .ok (.bipush 61, 2) := by decide +kernel
theorem dX6_rule_110 : decode cX6_rule 110 = .ok (.iaload, 1) := by decide +kernel
theorem dX6_rule_111 : decode cX6_rule 111 = .ok (.ireturn, 1) := by decide +kernel
theorem dX6_rule_112 : decode cX6_rule 112 = .ok (.aload_n 0, 1) := by decide +kernel
theorem dX6_rule_113 : decode cX6_rule 113 = .ok (.getfield 7, 3) := by decide +kernel
theorem dX6_rule_116 : decode cX6_rule 116 = .ok (.bipush 62, 2) := by decide +kernel
theorem dX6_rule_118 : decode cX6_rule 118 = .ok (.iaload, 1) := by decide +kernel
theorem dX6_rule_119 : decode cX6_rule 119 = .ok (.ifCond .ne 8, 3) := by decide +kernel
theorem dX6_rule_122 : decode cX6_rule 122 = .ok (.bipush (-4), 2) := by decide +kernel
theorem dX6_rule_124 : decode cX6_rule 124 = .ok (.goto 12, 3) := by decide +kernel
theorem dX6_rule_127 : decode cX6_rule 127 = .ok (.aload_n 0, 1) := by decide +kernel
theorem dX6_rule_128 : decode cX6_rule 128 = .ok (.getfield 7, 3) := by decide +kernel
theorem dX6_rule_131 : decode cX6_rule 131 = .ok (.bipush 62, 2) := by decide +kernel
theorem dX6_rule_133 : decode cX6_rule 133 = .ok (.iaload, 1) := by decide +kernel
theorem dX6_rule_134 : decode cX6_rule 134 = .ok (.iconst 1, 1) := by decide +kernel
theorem dX6_rule_135 : decode cX6_rule 135 = .ok (.isub, 1) := by decide +kernel
theorem dX6_rule_136 : decode cX6_rule 136 = .ok (.ireturn, 1) := by decide +kernel
theorem dX6_rule_137 : decode cX6_rule 137 = .ok (.iload_n 2, 1) := by decide +kernel
theorem dX6_rule_138 : decode cX6_rule 138 = .ok (.ireturn, 1) := by decide +kernel
theorem dX6_rule_139 : decode cX6_rule 139 = .ok (.iconst (-1), 1) := by decide +kernel
theorem dX6_rule_140 : decode cX6_rule 140 = .ok (.ireturn, 1) := by decide +kernel
theorem dX6_worthOf_0 : decode cX6_worthOf 0 = .ok (.aload_n 0, 1) := by decide +kernel
theorem dX6_worthOf_1 : decode cX6_worthOf 1 = .ok (.getfield 7, 3) := by decide +kernel
theorem dX6_worthOf_4 : decode cX6_worthOf 4 = .ok (.iload_n 1, 1) := by decide +kernel
theorem dX6_worthOf_5 : decode cX6_worthOf 5 = .ok (.iaload, 1) := by decide +kernel
theorem dX6_worthOf_6 : decode cX6_worthOf 6 = .ok (.iconst 1, 1) := by decide +kernel
theorem dX6_worthOf_7 : decode cX6_worthOf 7 = .ok (.iadd, 1) := by decide +kernel
theorem dX6_worthOf_8 : decode cX6_worthOf 8 = .ok (.ireturn, 1) := by decide +kernel
theorem dX6_part_0 : decode cX6_part 0 = .ok (.aload_n 0, 1) := by decide +kernel
theorem dX6_part_1 : decode cX6_part 1 = .ok (.iload_n 1, 1) := by decide +kernel
theorem dX6_part_2 : decode cX6_part 2 = .ok (.invokevirtual 198, 3) := by decide +kernel
theorem dX6_part_5 : decode cX6_part 5 = .ok (.ifCond .ne 5, 3) := by decide +kernel
theorem dX6_part_8 : decode cX6_part 8 = .ok (.iconst (-1), 1) := by decide +kernel
theorem dX6_part_9 : decode cX6_part 9 = .ok (.ireturn, 1) := by decide +kernel
theorem dX6_part_10 : decode cX6_part 10 = .ok (.iload_n 2, 1) := by decide +kernel
theorem dX6_part_11 : decode cX6_part 11 = .ok (.tableswitch 48 0 2 #[25, 31, 41], 25) := by decide +kernel
theorem dX6_part_36 : decode cX6_part 36 = .ok (.aload_n 0, 1) := by decide +kernel
theorem dX6_part_37 : decode cX6_part 37 = .ok (.iload_n 1, 1) := by decide +kernel
theorem dX6_part_38 : decode cX6_part 38 = .ok (.invokevirtual 202, 3) := by decide +kernel
theorem dX6_part_41 : decode cX6_part 41 = .ok (.ireturn, 1) := by decide +kernel
theorem dX6_part_42 : decode cX6_part 42 = .ok (.aload_n 0, 1) := by decide +kernel
theorem dX6_part_43 : decode cX6_part 43 = .ok (.getfield 7, 3) := by decide +kernel
theorem dX6_part_46 : decode cX6_part 46 = .ok (.bipush 6, 2) := by decide +kernel
theorem dX6_part_48 : decode cX6_part 48 = .ok (.iload_n 1, 1) := by decide +kernel
theorem dX6_part_49 : decode cX6_part 49 = .ok (.iadd, 1) := by decide +kernel
theorem dX6_part_50 : decode cX6_part 50 = .ok (.iaload, 1) := by decide +kernel
theorem dX6_part_51 : decode cX6_part 51 = .ok (.ireturn, 1) := by decide +kernel
theorem dX6_part_52 : decode cX6_part 52 = .ok (.aload_n 0, 1) := by decide +kernel
theorem dX6_part_53 : decode cX6_part 53 = .ok (.iconst 0, 1) := by decide +kernel
theorem dX6_part_54 : decode cX6_part 54 = .ok (.iload_n 1, 1) := by decide +kernel
theorem dX6_part_55 : decode cX6_part 55 = .ok (.invokevirtual 194, 3) := by decide +kernel
theorem dX6_part_58 : decode cX6_part 58 = .ok (.ireturn, 1) := by decide +kernel
theorem dX6_part_59 : decode cX6_part 59 = .ok (.iconst (-1), 1) := by decide +kernel
theorem dX6_part_60 : decode cX6_part 60 = .ok (.ireturn, 1) := by decide +kernel
theorem dX6_layer_0 : decode cX6_layer 0 = .ok (.aload_n 0, 1) := by decide +kernel
theorem dX6_layer_1 : decode cX6_layer 1 = .ok (.iload_n 1, 1) := by decide +kernel
theorem dX6_layer_2 : decode cX6_layer 2 = .ok (.invokevirtual 198, 3) := by decide +kernel
theorem dX6_layer_5 : decode cX6_layer 5 = .ok (.ifCond .eq 40, 3) := by decide +kernel
theorem dX6_layer_8 : decode cX6_layer 8 = .ok (.iload_n 2, 1) := by decide +kernel
theorem dX6_layer_9 : decode cX6_layer 9 = .ok (.i2l, 1) := by decide +kernel
theorem dX6_layer_10 : decode cX6_layer 10 = .ok (.lconst 0, 1) := by decide +kernel
theorem dX6_layer_11 : decode cX6_layer 11 = .ok (.aload_n 0, 1) := by decide +kernel
theorem dX6_layer_12 : decode cX6_layer 12 = .ok (.getfield 7, 3) := by decide +kernel
theorem dX6_layer_15 : decode cX6_layer 15 = .ok (.bipush 6, 2) := by decide +kernel
theorem dX6_layer_17 : decode cX6_layer 17 = .ok (.iload_n 1, 1) := by decide +kernel
theorem dX6_layer_18 : decode cX6_layer 18 = .ok (.iadd, 1) := by decide +kernel
theorem dX6_layer_19 : decode cX6_layer 19 = .ok (.iaload, 1) := by decide +kernel
theorem dX6_layer_20 : decode cX6_layer 20 = .ok (.iconst 1, 1) := by decide +kernel
theorem dX6_layer_21 : decode cX6_layer 21 = .ok (.isub, 1) := by decide +kernel
theorem dX6_layer_22 : decode cX6_layer 22 = .ok (.i2l, 1) := by decide +kernel
theorem dX6_layer_23 : decode cX6_layer 23 = .ok (.invokestatic 68, 3) := by decide +kernel
theorem dX6_layer_26 : decode cX6_layer 26 = .ok (.ifCond .eq 19, 3) := by decide +kernel
theorem dX6_layer_29 : decode cX6_layer 29 = .ok (.aload_n 0, 1) := by decide +kernel
theorem dX6_layer_30 : decode cX6_layer 30 = .ok (.getfield 7, 3) := by decide +kernel
theorem dX6_layer_33 : decode cX6_layer 33 = .ok (.bipush 12, 2) := by decide +kernel
theorem dX6_layer_35 : decode cX6_layer 35 = .ok (.iconst 4, 1) := by decide +kernel
theorem dX6_layer_36 : decode cX6_layer 36 = .ok (.iload_n 1, 1) := by decide +kernel
theorem dX6_layer_37 : decode cX6_layer 37 = .ok (.imul, 1) := by decide +kernel
theorem dX6_layer_38 : decode cX6_layer 38 = .ok (.iadd, 1) := by decide +kernel
theorem dX6_layer_39 : decode cX6_layer 39 = .ok (.iload_n 2, 1) := by decide +kernel
theorem dX6_layer_40 : decode cX6_layer 40 = .ok (.iadd, 1) := by decide +kernel
theorem dX6_layer_41 : decode cX6_layer 41 = .ok (.iaload, 1) := by decide +kernel
theorem dX6_layer_42 : decode cX6_layer 42 = .ok (.goto 4, 3) := by decide +kernel
theorem dX6_layer_45 : decode cX6_layer 45 = .ok (.iconst (-1), 1) := by decide +kernel
theorem dX6_layer_46 : decode cX6_layer 46 = .ok (.ireturn, 1) := by decide +kernel
theorem dX6_shownOn_0 : decode cX6_shownOn 0 = .ok (.iconst 0, 1) := by decide +kernel
theorem dX6_shownOn_1 : decode cX6_shownOn 1 = .ok (.istore_n 3, 1) := by decide +kernel
theorem dX6_shownOn_2 : decode cX6_shownOn 2 = .ok (.iconst 0, 1) := by decide +kernel
theorem dX6_shownOn_3 : decode cX6_shownOn 3 = .ok (.istore 4, 2) := by decide +kernel
theorem dX6_shownOn_5 : decode cX6_shownOn 5 = .ok (.iload 4, 2) := by decide +kernel
theorem dX6_shownOn_7 : decode cX6_shownOn 7 = .ok (.aload_n 0, 1) := by decide +kernel
theorem dX6_shownOn_8 : decode cX6_shownOn 8 = .ok (.getfield 13, 3) := by decide +kernel
theorem dX6_shownOn_11 : decode cX6_shownOn 11 = .ok (.if_icmp .ge 31, 3) := by decide +kernel
theorem dX6_shownOn_14 : decode cX6_shownOn 14 = .ok (.iload_n 3, 1) := by decide +kernel
theorem dX6_shownOn_15 : decode cX6_shownOn 15 = .ok (.aload_n 0, 1) := by decide +kernel
theorem dX6_shownOn_16 : decode cX6_shownOn 16 = .ok (.iload_n 1, 1) := by decide +kernel
theorem dX6_shownOn_17 : decode cX6_shownOn 17 = .ok (.iload 4, 2) := by decide +kernel
theorem dX6_shownOn_19 : decode cX6_shownOn 19 = .ok (.invokevirtual 194, 3) := by decide +kernel
theorem dX6_shownOn_22 : decode cX6_shownOn 22 = .ok (.iload_n 2, 1) := by decide +kernel
theorem dX6_shownOn_23 : decode cX6_shownOn 23 = .ok (.if_icmp .ne 10, 3) := by decide +kernel
theorem dX6_shownOn_26 : decode cX6_shownOn 26 = .ok (.iconst 1, 1) := by decide +kernel
theorem dX6_shownOn_27 : decode cX6_shownOn 27 = .ok (.iload 4, 2) := by decide +kernel
theorem dX6_shownOn_29 : decode cX6_shownOn 29 = .ok (.ishl, 1) := by decide +kernel
theorem dX6_shownOn_30 : decode cX6_shownOn 30 = .ok (.goto 4, 3) := by decide +kernel
theorem dX6_shownOn_33 : decode cX6_shownOn 33 = .ok (.iconst 0, 1) := by decide +kernel
theorem dX6_shownOn_34 : decode cX6_shownOn 34 = .ok (.ior, 1) := by decide +kernel
theorem dX6_shownOn_35 : decode cX6_shownOn 35 = .ok (.istore_n 3, 1) := by decide +kernel
theorem dX6_shownOn_36 : decode cX6_shownOn 36 = .ok (.iinc 4 1, 3) := by decide +kernel
theorem dX6_shownOn_39 : decode cX6_shownOn 39 = .ok (.goto (-34), 3) := by decide +kernel
theorem dX6_shownOn_42 : decode cX6_shownOn 42 = .ok (.iload_n 3, 1) := by decide +kernel
theorem dX6_shownOn_43 : decode cX6_shownOn 43 = .ok (.ireturn, 1) := by decide +kernel
theorem dX6_sitter_0 : decode cX6_sitter 0 = .ok (.aload_n 0, 1) := by decide +kernel
theorem dX6_sitter_1 : decode cX6_sitter 1 = .ok (.iload_n 1, 1) := by decide +kernel
theorem dX6_sitter_2 : decode cX6_sitter 2 = .ok (.invokevirtual 205, 3) := by decide +kernel
theorem dX6_sitter_5 : decode cX6_sitter 5 = .ok (.ifCond .eq 15, 3) := by decide +kernel
theorem dX6_sitter_8 : decode cX6_sitter 8 = .ok (.iload_n 2, 1) := by decide +kernel
theorem dX6_sitter_9 : decode cX6_sitter 9 = .ok (.i2l, 1) := by decide +kernel
theorem dX6_sitter_10 : decode cX6_sitter 10 = .ok (.lconst 0, 1) := by decide +kernel
theorem dX6_sitter_11 : decode cX6_sitter 11 = .ok (.ldc2_w 131, 3) := by decide +kernel
theorem dX6_sitter_14 : decode cX6_sitter 14 = .ok (.invokestatic 68, 3) := by decide +kernel
theorem dX6_sitter_17 : decode cX6_sitter 17 = .ok (.ifCond .ne 5, 3) := by decide +kernel
theorem dX6_sitter_20 : decode cX6_sitter 20 = .ok (.iconst (-1), 1) := by decide +kernel
theorem dX6_sitter_21 : decode cX6_sitter 21 = .ok (.ireturn, 1) := by decide +kernel
theorem dX6_sitter_22 : decode cX6_sitter 22 = .ok (.iload_n 2, 1) := by decide +kernel
theorem dX6_sitter_23 : decode cX6_sitter 23 = .ok (.iconst 5, 1) := by decide +kernel
theorem dX6_sitter_24 : decode cX6_sitter 24 = .ok (.if_icmp .ne 12, 3) := by decide +kernel
theorem dX6_sitter_27 : decode cX6_sitter 27 = .ok (.aload_n 0, 1) := by decide +kernel
theorem dX6_sitter_28 : decode cX6_sitter 28 = .ok (.iconst 0, 1) := by decide +kernel
theorem dX6_sitter_29 : decode cX6_sitter 29 = .ok (.iload_n 1, 1) := by decide +kernel
theorem dX6_sitter_30 : decode cX6_sitter 30 = .ok (.invokevirtual 208, 3) := by decide +kernel
theorem dX6_sitter_33 : decode cX6_sitter 33 = .ok (.goto 16, 3) := by decide +kernel
theorem dX6_sitter_36 : decode cX6_sitter 36 = .ok (.aload_n 0, 1) := by decide +kernel
theorem dX6_sitter_37 : decode cX6_sitter 37 = .ok (.getfield 7, 3) := by decide +kernel
theorem dX6_sitter_40 : decode cX6_sitter 40 = .ok (.bipush 36, 2) := by decide +kernel
theorem dX6_sitter_42 : decode cX6_sitter 42 = .ok (.iconst 5, 1) := by decide +kernel
theorem dX6_sitter_43 : decode cX6_sitter 43 = .ok (.iload_n 2, 1) := by decide +kernel
theorem dX6_sitter_44 : decode cX6_sitter 44 = .ok (.imul, 1) := by decide +kernel
theorem dX6_sitter_45 : decode cX6_sitter 45 = .ok (.iadd, 1) := by decide +kernel
theorem dX6_sitter_46 : decode cX6_sitter 46 = .ok (.iload_n 1, 1) := by decide +kernel
theorem dX6_sitter_47 : decode cX6_sitter 47 = .ok (.iadd, 1) := by decide +kernel
theorem dX6_sitter_48 : decode cX6_sitter 48 = .ok (.iaload, 1) := by decide +kernel
theorem dX6_sitter_49 : decode cX6_sitter 49 = .ok (.ireturn, 1) := by decide +kernel
theorem dX6_finds_0 : decode cX6_finds 0 = .ok (.aload_n 0, 1) := by decide +kernel
theorem dX6_finds_1 : decode cX6_finds 1 = .ok (.getfield 7, 3) := by decide +kernel
theorem dX6_finds_4 : decode cX6_finds 4 = .ok (.bipush 41, 2) := by decide +kernel
theorem dX6_finds_6 : decode cX6_finds 6 = .ok (.iload_n 1, 1) := by decide +kernel
theorem dX6_finds_7 : decode cX6_finds 7 = .ok (.iadd, 1) := by decide +kernel
theorem dX6_finds_8 : decode cX6_finds 8 = .ok (.iaload, 1) := by decide +kernel
theorem dX6_finds_9 : decode cX6_finds 9 = .ok (.aload_n 0, 1) := by decide +kernel
theorem dX6_finds_10 : decode cX6_finds 10 = .ok (.getfield 7, 3) := by decide +kernel
theorem dX6_finds_13 : decode cX6_finds 13 = .ok (.bipush 41, 2) := by decide +kernel
theorem dX6_finds_15 : decode cX6_finds 15 = .ok (.iload_n 2, 1) := by decide +kernel
theorem dX6_finds_16 : decode cX6_finds 16 = .ok (.iadd, 1) := by decide +kernel
theorem dX6_finds_17 : decode cX6_finds 17 = .ok (.iaload, 1) := by decide +kernel
theorem dX6_finds_18 : decode cX6_finds 18 = .ok (.isub, 1) := by decide +kernel
theorem dX6_finds_19 : decode cX6_finds 19 = .ok (.istore_n 3, 1) := by decide +kernel
theorem dX6_finds_20 : decode cX6_finds 20 = .ok (.aload_n 0, 1) := by decide +kernel
theorem dX6_finds_21 : decode cX6_finds 21 = .ok (.getfield 7, 3) := by decide +kernel
theorem dX6_finds_24 : decode cX6_finds 24 = .ok (.bipush 36, 2) := by decide +kernel
theorem dX6_finds_26 : decode cX6_finds 26 = .ok (.iload_n 1, 1) := by decide +kernel
theorem dX6_finds_27 : decode cX6_finds 27 = .ok (.iadd, 1) := by decide +kernel
theorem dX6_finds_28 : decode cX6_finds 28 = .ok (.iaload, 1) := by decide +kernel
theorem dX6_finds_29 : decode cX6_finds 29 = .ok (.istore 4, 2) := by decide +kernel
theorem dX6_finds_31 : decode cX6_finds 31 = .ok (.iload_n 3, 1) := by decide +kernel
theorem dX6_finds_32 : decode cX6_finds 32 = .ok (.i2l, 1) := by decide +kernel
theorem dX6_finds_33 : decode cX6_finds 33 = .ok (.ldc2_w 211, 3) := by decide +kernel
theorem dX6_finds_36 : decode cX6_finds 36 = .ok (.lconst 1, 1) := by decide +kernel
theorem dX6_finds_37 : decode cX6_finds 37 = .ok (.invokestatic 68, 3) := by decide +kernel
theorem dX6_finds_40 : decode cX6_finds 40 = .ok (.istore 5, 2) := by decide +kernel
theorem dX6_finds_42 : decode cX6_finds 42 = .ok (.iload 4, 2) := by decide +kernel
theorem dX6_finds_44 : decode cX6_finds 44 = .ok (.iconst 3, 1) := by decide +kernel
theorem dX6_finds_45 : decode cX6_finds 45 = .ok (.if_icmp .eq 44, 3) := by decide +kernel
theorem dX6_finds_48 : decode cX6_finds 48 = .ok (.iload 4, 2) := by decide +kernel
theorem dX6_finds_50 : decode cX6_finds 50 = .ok (.iconst 2, 1) := by decide +kernel
theorem dX6_finds_51 : decode cX6_finds 51 = .ok (.if_icmp .ne 10, 3) := by decide +kernel
theorem dX6_finds_54 : decode cX6_finds 54 = .ok (.iload_n 3, 1) := by decide +kernel
theorem dX6_finds_55 : decode cX6_finds 55 = .ok (.ifCond .ne 34, 3) := by decide +kernel
theorem dX6_finds_58 : decode cX6_finds 58 = .ok (.goto 27, 3) := by decide +kernel
theorem dX6_finds_61 : decode cX6_finds 61 = .ok (.iload 5, 2) := by decide +kernel
theorem dX6_finds_63 : decode cX6_finds 63 = .ok (.ifCond .ne 22, 3) := by decide +kernel
theorem dX6_finds_66 : decode cX6_finds 66 = .ok (.iload 4, 2) := by decide +kernel
theorem dX6_finds_68 : decode cX6_finds 68 = .ok (.iconst 1, 1) := by decide +kernel
theorem dX6_finds_69 : decode cX6_finds 69 = .ok (.if_icmp .ne 20, 3) := by decide +kernel
theorem dX6_finds_72 : decode cX6_finds 72 = .ok (.aload_n 0, 1) := by decide +kernel
theorem dX6_finds_73 : decode cX6_finds 73 = .ok (.getfield 7, 3) := by decide +kernel
theorem dX6_finds_76 : decode cX6_finds 76 = .ok (.bipush 36, 2) := by decide +kernel
theorem dX6_finds_78 : decode cX6_finds 78 = .ok (.iload_n 2, 1) := by decide +kernel
theorem dX6_finds_79 : decode cX6_finds 79 = .ok (.iadd, 1) := by decide +kernel
theorem dX6_finds_80 : decode cX6_finds 80 = .ok (.iaload, 1) := by decide +kernel
theorem dX6_finds_81 : decode cX6_finds 81 = .ok (.iconst 1, 1) := by decide +kernel
theorem dX6_finds_82 : decode cX6_finds 82 = .ok (.if_icmp .ne 7, 3) := by decide +kernel
theorem dX6_finds_85 : decode cX6_finds 85 = .ok (.iconst 1, 1) := by decide +kernel
theorem dX6_finds_86 : decode cX6_finds 86 = .ok (.goto 4, 3) := by decide +kernel
theorem dX6_finds_89 : decode cX6_finds 89 = .ok (.iconst 0, 1) := by decide +kernel
theorem dX6_finds_90 : decode cX6_finds 90 = .ok (.ireturn, 1) := by decide +kernel
theorem dX6_areLike_0 : decode cX6_areLike 0 = .ok (.iload_n 1, 1) := by decide +kernel
theorem dX6_areLike_1 : decode cX6_areLike 1 = .ok (.iload_n 2, 1) := by decide +kernel
theorem dX6_areLike_2 : decode cX6_areLike 2 = .ok (.if_icmp .eq 21, 3) := by decide +kernel
theorem dX6_areLike_5 : decode cX6_areLike 5 = .ok (.aload_n 0, 1) := by decide +kernel
theorem dX6_areLike_6 : decode cX6_areLike 6 = .ok (.iload_n 1, 1) := by decide +kernel
theorem dX6_areLike_7 : decode cX6_areLike 7 = .ok (.iload_n 2, 1) := by decide +kernel
theorem dX6_areLike_8 : decode cX6_areLike 8 = .ok (.invokevirtual 213, 3) := by decide +kernel
theorem dX6_areLike_11 : decode cX6_areLike 11 = .ok (.ifCond .eq 16, 3) := by decide +kernel
theorem dX6_areLike_14 : decode cX6_areLike 14 = .ok (.aload_n 0, 1) := by decide +kernel
theorem dX6_areLike_15 : decode cX6_areLike 15 = .ok (.iload_n 2, 1) := by decide +kernel
theorem dX6_areLike_16 : decode cX6_areLike 16 = .ok (.iload_n 1, 1) := by decide +kernel
theorem dX6_areLike_17 : decode cX6_areLike 17 = .ok (.invokevirtual 213, 3) := by decide +kernel
theorem dX6_areLike_20 : decode cX6_areLike 20 = .ok (.ifCond .eq 7, 3) := by decide +kernel
theorem dX6_areLike_23 : decode cX6_areLike 23 = .ok (.iconst 1, 1) := by decide +kernel
theorem dX6_areLike_24 : decode cX6_areLike 24 = .ok (.goto 4, 3) := by decide +kernel
theorem dX6_areLike_27 : decode cX6_areLike 27 = .ok (.iconst 0, 1) := by decide +kernel
theorem dX6_areLike_28 : decode cX6_areLike 28 = .ok (.ireturn, 1) := by decide +kernel
theorem dX6_isLikeOn_0 : decode cX6_isLikeOn 0 = .ok (.aload_n 0, 1) := by decide +kernel
theorem dX6_isLikeOn_1 : decode cX6_isLikeOn 1 = .ok (.iload_n 1, 1) := by decide +kernel
theorem dX6_isLikeOn_2 : decode cX6_isLikeOn 2 = .ok (.aload_n 0, 1) := by decide +kernel
theorem dX6_isLikeOn_3 : decode cX6_isLikeOn 3 = .ok (.getfield 17, 3) := by decide +kernel
theorem dX6_isLikeOn_6 : decode cX6_isLikeOn 6 = .ok (.iconst 2, 1) := by decide +kernel
theorem dX6_isLikeOn_7 : decode cX6_isLikeOn 7 = .ok (.iload_n 2, 1) := by decide +kernel
theorem dX6_isLikeOn_8 : decode cX6_isLikeOn 8 = .ok (.imul, 1) := by decide +kernel
theorem dX6_isLikeOn_9 : decode cX6_isLikeOn 9 = .ok (.iaload, 1) := by decide +kernel
theorem dX6_isLikeOn_10 : decode cX6_isLikeOn 10 = .ok (.invokevirtual 194, 3) := by decide +kernel
theorem dX6_isLikeOn_13 : decode cX6_isLikeOn 13 = .ok (.istore_n 3, 1) := by decide +kernel
theorem dX6_isLikeOn_14 : decode cX6_isLikeOn 14 = .ok (.aload_n 0, 1) := by decide +kernel
theorem dX6_isLikeOn_15 : decode cX6_isLikeOn 15 = .ok (.iload_n 1, 1) := by decide +kernel
theorem dX6_isLikeOn_16 : decode cX6_isLikeOn 16 = .ok (.aload_n 0, 1) := by decide +kernel
theorem dX6_isLikeOn_17 : decode cX6_isLikeOn 17 = .ok (.getfield 17, 3) := by decide +kernel
theorem dX6_isLikeOn_20 : decode cX6_isLikeOn 20 = .ok (.iconst 2, 1) := by decide +kernel
theorem dX6_isLikeOn_21 : decode cX6_isLikeOn 21 = .ok (.iload_n 2, 1) := by decide +kernel
theorem dX6_isLikeOn_22 : decode cX6_isLikeOn 22 = .ok (.imul, 1) := by decide +kernel
theorem dX6_isLikeOn_23 : decode cX6_isLikeOn 23 = .ok (.iconst 1, 1) := by decide +kernel
theorem dX6_isLikeOn_24 : decode cX6_isLikeOn 24 = .ok (.iadd, 1) := by decide +kernel
theorem dX6_isLikeOn_25 : decode cX6_isLikeOn 25 = .ok (.iaload, 1) := by decide +kernel
theorem dX6_isLikeOn_26 : decode cX6_isLikeOn 26 = .ok (.invokevirtual 194, 3) := by decide +kernel
theorem dX6_isLikeOn_29 : decode cX6_isLikeOn 29 = .ok (.istore 4, 2) := by decide +kernel
theorem dX6_isLikeOn_31 : decode cX6_isLikeOn 31 = .ok (.iload_n 3, 1) := by decide +kernel
theorem dX6_isLikeOn_32 : decode cX6_isLikeOn 32 = .ok (.bipush (-4), 2) := by decide +kernel
theorem dX6_isLikeOn_34 : decode cX6_isLikeOn 34 = .ok (.if_icmp .eq 24, 3) := by decide +kernel
theorem dX6_isLikeOn_37 : decode cX6_isLikeOn 37 = .ok (.iload 4, 2) := by decide +kernel
theorem dX6_isLikeOn_39 : decode cX6_isLikeOn 39 = .ok (.bipush (-4), 2) := by decide +kernel
theorem dX6_isLikeOn_41 : decode cX6_isLikeOn 41 = .ok (.if_icmp .eq 17, 3) := by decide +kernel
theorem dX6_isLikeOn_44 : decode cX6_isLikeOn 44 = .ok (.aload_n 0, 1) := by decide +kernel
theorem dX6_isLikeOn_45 : decode cX6_isLikeOn 45 = .ok (.iload_n 3, 1) := by decide +kernel
theorem dX6_isLikeOn_46 : decode cX6_isLikeOn 46 = .ok (.iload 4, 2) := by decide +kernel
theorem dX6_isLikeOn_48 : decode cX6_isLikeOn 48 = .ok (.invokevirtual 217, 3) := by decide +kernel
theorem dX6_isLikeOn_51 : decode cX6_isLikeOn 51 = .ok (.ifCond .eq 7, 3) := by decide +kernel
theorem dX6_isLikeOn_54 : decode cX6_isLikeOn 54 = .ok (.iconst 1, 1) := by decide +kernel
theorem dX6_isLikeOn_55 : decode cX6_isLikeOn 55 = .ok (.goto 4, 3) := by decide +kernel
theorem dX6_isLikeOn_58 : decode cX6_isLikeOn 58 = .ok (.iconst 0, 1) := by decide +kernel
theorem dX6_isLikeOn_59 : decode cX6_isLikeOn 59 = .ok (.ireturn, 1) := by decide +kernel
theorem dX6_likeBondsOn_0 : decode cX6_likeBondsOn 0 = .ok (.iconst 0, 1) := by decide +kernel
theorem dX6_likeBondsOn_1 : decode cX6_likeBondsOn 1 = .ok (.istore_n 2, 1) := by decide +kernel
theorem dX6_likeBondsOn_2 : decode cX6_likeBondsOn 2 = .ok (.iconst 0, 1) := by decide +kernel
theorem dX6_likeBondsOn_3 : decode cX6_likeBondsOn 3 = .ok (.istore_n 3, 1) := by decide +kernel
theorem dX6_likeBondsOn_4 : decode cX6_likeBondsOn 4 = .ok (.iload_n 3, 1) := by decide +kernel
theorem dX6_likeBondsOn_5 : decode cX6_likeBondsOn 5 = .ok (.aload_n 0, 1) := by decide +kernel
theorem dX6_likeBondsOn_6 : decode cX6_likeBondsOn 6 = .ok (.getfield 185, 3) := by decide +kernel
theorem dX6_likeBondsOn_9 : decode cX6_likeBondsOn 9 = .ok (.if_icmp .ge 26, 3) := by decide +kernel
theorem dX6_likeBondsOn_12 : decode cX6_likeBondsOn 12 = .ok (.iload_n 2, 1) := by decide +kernel
theorem dX6_likeBondsOn_13 : decode cX6_likeBondsOn 13 = .ok (.aload_n 0, 1) := by decide +kernel
theorem dX6_likeBondsOn_14 : decode cX6_likeBondsOn 14 = .ok (.iload_n 1, 1) := by decide +kernel
theorem dX6_likeBondsOn_15 : decode cX6_likeBondsOn 15 = .ok (.iload_n 3, 1) := by decide +kernel
theorem dX6_likeBondsOn_16 : decode cX6_likeBondsOn 16 = .ok (.invokevirtual 220, 3) := by decide +kernel
theorem dX6_likeBondsOn_19 : decode cX6_likeBondsOn 19 = .ok (.ifCond .eq 7, 3) := by decide +kernel
theorem dX6_likeBondsOn_22 : decode cX6_likeBondsOn 22 = .ok (.iconst 1, 1) := by decide +kernel
theorem dX6_likeBondsOn_23 : decode cX6_likeBondsOn 23 = .ok (.goto 4, 3) := by decide +kernel
theorem dX6_likeBondsOn_26 : decode cX6_likeBondsOn 26 = .ok (.iconst 0, 1) := by decide +kernel
theorem dX6_likeBondsOn_27 : decode cX6_likeBondsOn 27 = .ok (.iadd, 1) := by decide +kernel
theorem dX6_likeBondsOn_28 : decode cX6_likeBondsOn 28 = .ok (.istore_n 2, 1) := by decide +kernel
theorem dX6_likeBondsOn_29 : decode cX6_likeBondsOn 29 = .ok (.iinc 3 1, 3) := by decide +kernel
theorem dX6_likeBondsOn_32 : decode cX6_likeBondsOn 32 = .ok (.goto (-28), 3) := by decide +kernel
theorem dX6_likeBondsOn_35 : decode cX6_likeBondsOn 35 = .ok (.iload_n 2, 1) := by decide +kernel
theorem dX6_likeBondsOn_36 : decode cX6_likeBondsOn 36 = .ok (.ireturn, 1) := by decide +kernel
theorem dX6_bond_0 : decode cX6_bond 0 = .ok (.iload_n 1, 1) := by decide +kernel
theorem dX6_bond_1 : decode cX6_bond 1 = .ok (.i2l, 1) := by decide +kernel
theorem dX6_bond_2 : decode cX6_bond 2 = .ok (.lconst 0, 1) := by decide +kernel
theorem dX6_bond_3 : decode cX6_bond 3 = .ok (.aload_n 0, 1) := by decide +kernel
theorem dX6_bond_4 : decode cX6_bond 4 = .ok (.getfield 185, 3) := by decide +kernel
theorem dX6_bond_7 : decode cX6_bond 7 = .ok (.iconst 1, 1) := by decide +kernel
theorem dX6_bond_8 : decode cX6_bond 8 = .ok (.isub, 1) := by decide +kernel
theorem dX6_bond_9 : decode cX6_bond 9 = .ok (.i2l, 1) := by decide +kernel
theorem dX6_bond_10 : decode cX6_bond 10 = .ok (.invokestatic 68, 3) := by decide +kernel
theorem dX6_bond_13 : decode cX6_bond 13 = .ok (.ifCond .eq 15, 3) := by decide +kernel
theorem dX6_bond_16 : decode cX6_bond 16 = .ok (.iload_n 2, 1) := by decide +kernel
theorem dX6_bond_17 : decode cX6_bond 17 = .ok (.i2l, 1) := by decide +kernel
theorem dX6_bond_18 : decode cX6_bond 18 = .ok (.lconst 0, 1) := by decide +kernel
theorem dX6_bond_19 : decode cX6_bond 19 = .ok (.ldc2_w 223, 3) := by decide +kernel
theorem dX6_bond_22 : decode cX6_bond 22 = .ok (.invokestatic 68, 3) := by decide +kernel
theorem dX6_bond_25 : decode cX6_bond 25 = .ok (.ifCond .ne 5, 3) := by decide +kernel
theorem dX6_bond_28 : decode cX6_bond 28 = .ok (.iconst (-1), 1) := by decide +kernel
theorem dX6_bond_29 : decode cX6_bond 29 = .ok (.ireturn, 1) := by decide +kernel
theorem dX6_bond_30 : decode cX6_bond 30 = .ok (.iload_n 2, 1) := by decide +kernel
theorem dX6_bond_31 : decode cX6_bond 31 = .ok (.iconst 2, 1) := by decide +kernel
theorem dX6_bond_32 : decode cX6_bond 32 = .ok (.if_icmp .ge 16, 3) := by decide +kernel
theorem dX6_bond_35 : decode cX6_bond 35 = .ok (.aload_n 0, 1) := by decide +kernel
theorem dX6_bond_36 : decode cX6_bond 36 = .ok (.getfield 17, 3) := by decide +kernel
theorem dX6_bond_39 : decode cX6_bond 39 = .ok (.iconst 2, 1) := by decide +kernel
theorem dX6_bond_40 : decode cX6_bond 40 = .ok (.iload_n 1, 1) := by decide +kernel
theorem dX6_bond_41 : decode cX6_bond 41 = .ok (.imul, 1) := by decide +kernel
theorem dX6_bond_42 : decode cX6_bond 42 = .ok (.iload_n 2, 1) := by decide +kernel
theorem dX6_bond_43 : decode cX6_bond 43 = .ok (.iadd, 1) := by decide +kernel
theorem dX6_bond_44 : decode cX6_bond 44 = .ok (.iaload, 1) := by decide +kernel
theorem dX6_bond_45 : decode cX6_bond 45 = .ok (.goto 17, 3) := by decide +kernel
theorem dX6_bond_48 : decode cX6_bond 48 = .ok (.aload_n 0, 1) := by decide +kernel
theorem dX6_bond_49 : decode cX6_bond 49 = .ok (.iconst 0, 1) := by decide +kernel
theorem dX6_bond_50 : decode cX6_bond 50 = .ok (.iload_n 1, 1) := by decide +kernel
theorem dX6_bond_51 : decode cX6_bond 51 = .ok (.invokevirtual 220, 3) := by decide +kernel
theorem dX6_bond_54 : decode cX6_bond 54 = .ok (.ifCond .eq 7, 3) := by decide +kernel
theorem dX6_bond_57 : decode cX6_bond 57 = .ok (.iconst 1, 1) := by decide +kernel
theorem dX6_bond_58 : decode cX6_bond 58 = .ok (.goto 4, 3) := by decide +kernel
theorem dX6_bond_61 : decode cX6_bond 61 = .ok (.iconst 0, 1) := by decide +kernel
theorem dX6_bond_62 : decode cX6_bond 62 = .ok (.ireturn, 1) := by decide +kernel
theorem dX6_forger_0 : decode cX6_forger 0 = .ok (.iload_n 1, 1) := by decide +kernel
theorem dX6_forger_1 : decode cX6_forger 1 = .ok (.i2l, 1) := by decide +kernel
theorem dX6_forger_2 : decode cX6_forger 2 = .ok (.lconst 0, 1) := by decide +kernel
theorem dX6_forger_3 : decode cX6_forger 3 = .ok (.aload_n 0, 1) := by decide +kernel
theorem dX6_forger_4 : decode cX6_forger 4 = .ok (.getfield 188, 3) := by decide +kernel
theorem dX6_forger_7 : decode cX6_forger 7 = .ok (.iconst 1, 1) := by decide +kernel
theorem dX6_forger_8 : decode cX6_forger 8 = .ok (.isub, 1) := by decide +kernel
theorem dX6_forger_9 : decode cX6_forger 9 = .ok (.i2l, 1) := by decide +kernel
theorem dX6_forger_10 : decode cX6_forger 10 = .ok (.invokestatic 68, 3) := by decide +kernel
theorem dX6_forger_13 : decode cX6_forger 13 = .ok (.ifCond .eq 12, 3) := by decide +kernel
theorem dX6_forger_16 : decode cX6_forger 16 = .ok (.aload_n 0, 1) := by decide +kernel
theorem dX6_forger_17 : decode cX6_forger 17 = .ok (.getfield 20, 3) := by decide +kernel
theorem dX6_forger_20 : decode cX6_forger 20 = .ok (.iload_n 1, 1) := by decide +kernel
theorem dX6_forger_21 : decode cX6_forger 21 = .ok (.iaload, 1) := by decide +kernel
theorem dX6_forger_22 : decode cX6_forger 22 = .ok (.goto 4, 3) := by decide +kernel
theorem dX6_forger_25 : decode cX6_forger 25 = .ok (.iconst (-1), 1) := by decide +kernel
theorem dX6_forger_26 : decode cX6_forger 26 = .ok (.ireturn, 1) := by decide +kernel
theorem dX6_paintsOn_0 : decode cX6_paintsOn 0 = .ok (.iload_n 1, 1) := by decide +kernel
theorem dX6_paintsOn_1 : decode cX6_paintsOn 1 = .ok (.bipush 12, 2) := by decide +kernel
theorem dX6_paintsOn_3 : decode cX6_paintsOn 3 = .ok (.iadd, 1) := by decide +kernel
theorem dX6_paintsOn_4 : decode cX6_paintsOn 4 = .ok (.iconst 4, 1) := by decide +kernel
theorem dX6_paintsOn_5 : decode cX6_paintsOn 5 = .ok (.iload_n 2, 1) := by decide +kernel
theorem dX6_paintsOn_6 : decode cX6_paintsOn 6 = .ok (.imul, 1) := by decide +kernel
theorem dX6_paintsOn_7 : decode cX6_paintsOn 7 = .ok (.iadd, 1) := by decide +kernel
theorem dX6_paintsOn_8 : decode cX6_paintsOn 8 = .ok (.istore 4, 2) := by decide +kernel
theorem dX6_paintsOn_10 : decode cX6_paintsOn 10 = .ok (.aload_n 0, 1) := by decide +kernel
theorem dX6_paintsOn_11 : decode cX6_paintsOn 11 = .ok (.getfield 7, 3) := by decide +kernel
theorem dX6_paintsOn_14 : decode cX6_paintsOn 14 = .ok (.iload_n 1, 1) := by decide +kernel
theorem dX6_paintsOn_15 : decode cX6_paintsOn 15 = .ok (.bipush 6, 2) := by decide +kernel
theorem dX6_paintsOn_17 : decode cX6_paintsOn 17 = .ok (.iadd, 1) := by decide +kernel
theorem dX6_paintsOn_18 : decode cX6_paintsOn 18 = .ok (.iload_n 2, 1) := by decide +kernel
theorem dX6_paintsOn_19 : decode cX6_paintsOn 19 = .ok (.iadd, 1) := by decide +kernel
theorem dX6_paintsOn_20 : decode cX6_paintsOn 20 = .ok (.iaload, 1) := by decide +kernel
theorem dX6_paintsOn_21 : decode cX6_paintsOn 21 = .ok (.iconst 4, 1) := by decide +kernel
theorem dX6_paintsOn_22 : decode cX6_paintsOn 22 = .ok (.if_icmp .ne 55, 3) := by decide +kernel
theorem dX6_paintsOn_25 : decode cX6_paintsOn 25 = .ok (.iconst 1, 1) := by decide +kernel
theorem dX6_paintsOn_26 : decode cX6_paintsOn 26 = .ok (.istore 5, 2) := by decide +kernel
theorem dX6_paintsOn_28 : decode cX6_paintsOn 28 = .ok (.iload 5, 2) := by decide +kernel
theorem dX6_paintsOn_30 : decode cX6_paintsOn 30 = .ok (.iconst 4, 1) := by decide +kernel
theorem dX6_paintsOn_31 : decode cX6_paintsOn 31 = .ok (.if_icmp .ge 31, 3) := by decide +kernel
theorem dX6_paintsOn_34 : decode cX6_paintsOn 34 = .ok (.aload_n 0, 1) := by decide +kernel
theorem dX6_paintsOn_35 : decode cX6_paintsOn 35 = .ok (.getfield 7, 3) := by decide +kernel
theorem dX6_paintsOn_38 : decode cX6_paintsOn 38 = .ok (.iload 4, 2) := by decide +kernel
theorem dX6_paintsOn_40 : decode cX6_paintsOn 40 = .ok (.iload 5, 2) := by decide +kernel
theorem dX6_paintsOn_42 : decode cX6_paintsOn 42 = .ok (.iadd, 1) := by decide +kernel
theorem dX6_paintsOn_43 : decode cX6_paintsOn 43 = .ok (.iconst 1, 1) := by decide +kernel
theorem dX6_paintsOn_44 : decode cX6_paintsOn 44 = .ok (.isub, 1) := by decide +kernel
theorem dX6_paintsOn_45 : decode cX6_paintsOn 45 = .ok (.aload_n 0, 1) := by decide +kernel
theorem dX6_paintsOn_46 : decode cX6_paintsOn 46 = .ok (.getfield 7, 3) := by decide +kernel
theorem dX6_paintsOn_49 : decode cX6_paintsOn 49 = .ok (.iload 4, 2) := by decide +kernel
theorem dX6_paintsOn_51 : decode cX6_paintsOn 51 = .ok (.iload 5, 2) := by decide +kernel
theorem dX6_paintsOn_53 : decode cX6_paintsOn 53 = .ok (.iadd, 1) := by decide +kernel
theorem dX6_paintsOn_54 : decode cX6_paintsOn 54 = .ok (.iaload, 1) := by decide +kernel
theorem dX6_paintsOn_55 : decode cX6_paintsOn 55 = .ok (.iastore, 1) := by decide +kernel
theorem dX6_paintsOn_56 : decode cX6_paintsOn 56 = .ok (.iinc 5 1, 3) := by decide +kernel
theorem dX6_paintsOn_59 : decode cX6_paintsOn 59 = .ok (.goto (-31), 3) := by decide +kernel
theorem dX6_paintsOn_62 : decode cX6_paintsOn 62 = .ok (.aload_n 0, 1) := by decide +kernel
theorem dX6_paintsOn_63 : decode cX6_paintsOn 63 = .ok (.getfield 7, 3) := by decide +kernel
theorem dX6_paintsOn_66 : decode cX6_paintsOn 66 = .ok (.iload_n 1, 1) := by decide +kernel
theorem dX6_paintsOn_67 : decode cX6_paintsOn 67 = .ok (.bipush 6, 2) := by decide +kernel
theorem dX6_paintsOn_69 : decode cX6_paintsOn 69 = .ok (.iadd, 1) := by decide +kernel
theorem dX6_paintsOn_70 : decode cX6_paintsOn 70 = .ok (.iload_n 2, 1) := by decide +kernel
theorem dX6_paintsOn_71 : decode cX6_paintsOn 71 = .ok (.iadd, 1) := by decide +kernel
theorem dX6_paintsOn_72 : decode cX6_paintsOn 72 = .ok (.dup2, 1) := by decide +kernel
theorem dX6_paintsOn_73 : decode cX6_paintsOn 73 = .ok (.iaload, 1) := by decide +kernel
theorem dX6_paintsOn_74 : decode cX6_paintsOn 74 = .ok (.iconst 1, 1) := by decide +kernel
theorem dX6_paintsOn_75 : decode cX6_paintsOn 75 = .ok (.isub, 1) := by decide +kernel
theorem dX6_paintsOn_76 : decode cX6_paintsOn 76 = .ok (.iastore, 1) := by decide +kernel
theorem dX6_paintsOn_77 : decode cX6_paintsOn 77 = .ok (.aload_n 0, 1) := by decide +kernel
theorem dX6_paintsOn_78 : decode cX6_paintsOn 78 = .ok (.getfield 7, 3) := by decide +kernel
theorem dX6_paintsOn_81 : decode cX6_paintsOn 81 = .ok (.iload 4, 2) := by decide +kernel
theorem dX6_paintsOn_83 : decode cX6_paintsOn 83 = .ok (.aload_n 0, 1) := by decide +kernel
theorem dX6_paintsOn_84 : decode cX6_paintsOn 84 = .ok (.getfield 7, 3) := by decide +kernel
theorem dX6_paintsOn_87 : decode cX6_paintsOn 87 = .ok (.iload_n 1, 1) := by decide +kernel
theorem dX6_paintsOn_88 : decode cX6_paintsOn 88 = .ok (.bipush 6, 2) := by decide +kernel
theorem dX6_paintsOn_90 : decode cX6_paintsOn 90 = .ok (.iadd, 1) := by decide +kernel
theorem dX6_paintsOn_91 : decode cX6_paintsOn 91 = .ok (.iload_n 2, 1) := by decide +kernel
theorem dX6_paintsOn_92 : decode cX6_paintsOn 92 = .ok (.iadd, 1) := by decide +kernel
theorem dX6_paintsOn_93 : decode cX6_paintsOn 93 = .ok (.iaload, 1) := by decide +kernel
theorem dX6_paintsOn_94 : decode cX6_paintsOn 94 = .ok (.iadd, 1) := by decide +kernel
theorem dX6_paintsOn_95 : decode cX6_paintsOn 95 = .ok (.iload_n 3, 1) := by decide +kernel
theorem dX6_paintsOn_96 : decode cX6_paintsOn 96 = .ok (.iastore, 1) := by decide +kernel
theorem dX6_paintsOn_97 : decode cX6_paintsOn 97 = .ok (.aload_n 0, 1) := by decide +kernel
theorem dX6_paintsOn_98 : decode cX6_paintsOn 98 = .ok (.getfield 7, 3) := by decide +kernel
theorem dX6_paintsOn_101 : decode cX6_paintsOn 101 = .ok (.iload_n 1, 1) := by decide +kernel
theorem dX6_paintsOn_102 : decode cX6_paintsOn 102 = .ok (.bipush 6, 2) := by decide +kernel
theorem dX6_paintsOn_104 : decode cX6_paintsOn 104 = .ok (.iadd, 1) := by decide +kernel
theorem dX6_paintsOn_105 : decode cX6_paintsOn 105 = .ok (.iload_n 2, 1) := by decide +kernel
theorem dX6_paintsOn_106 : decode cX6_paintsOn 106 = .ok (.iadd, 1) := by decide +kernel
theorem dX6_paintsOn_107 : decode cX6_paintsOn 107 = .ok (.dup2, 1) := by decide +kernel
theorem dX6_paintsOn_108 : decode cX6_paintsOn 108 = .ok (.iaload, 1) := by decide +kernel
theorem dX6_paintsOn_109 : decode cX6_paintsOn 109 = .ok (.iconst 1, 1) := by decide +kernel
theorem dX6_paintsOn_110 : decode cX6_paintsOn 110 = .ok (.iadd, 1) := by decide +kernel
theorem dX6_paintsOn_111 : decode cX6_paintsOn 111 = .ok (.iastore, 1) := by decide +kernel
theorem dX6_paintsOn_112 : decode cX6_paintsOn 112 = .ok (.return_, 1) := by decide +kernel
theorem dX6_painted_0 : decode cX6_painted 0 = .ok (.aload_n 0, 1) := by decide +kernel
theorem dX6_painted_1 : decode cX6_painted 1 = .ok (.iload_n 1, 1) := by decide +kernel
theorem dX6_painted_2 : decode cX6_painted 2 = .ok (.invokevirtual 198, 3) := by decide +kernel
theorem dX6_painted_5 : decode cX6_painted 5 = .ok (.ifCond .eq 11, 3) := by decide +kernel
theorem dX6_painted_8 : decode cX6_painted 8 = .ok (.aload_n 0, 1) := by decide +kernel
theorem dX6_painted_9 : decode cX6_painted 9 = .ok (.iload_n 2, 1) := by decide +kernel
theorem dX6_painted_10 : decode cX6_painted 10 = .ok (.invokevirtual 205, 3) := by decide +kernel
theorem dX6_painted_13 : decode cX6_painted 13 = .ok (.ifCond .ne 5, 3) := by decide +kernel
theorem dX6_painted_16 : decode cX6_painted 16 = .ok (.iconst (-1), 1) := by decide +kernel
theorem dX6_painted_17 : decode cX6_painted 17 = .ok (.ireturn, 1) := by decide +kernel
theorem dX6_painted_18 : decode cX6_painted 18 = .ok (.aload_n 0, 1) := by decide +kernel
theorem dX6_painted_19 : decode cX6_painted 19 = .ok (.getfield 7, 3) := by decide +kernel
theorem dX6_painted_22 : decode cX6_painted 22 = .ok (.bipush 6, 2) := by decide +kernel
theorem dX6_painted_24 : decode cX6_painted 24 = .ok (.iload_n 1, 1) := by decide +kernel
theorem dX6_painted_25 : decode cX6_painted 25 = .ok (.iadd, 1) := by decide +kernel
theorem dX6_painted_26 : decode cX6_painted 26 = .ok (.iaload, 1) := by decide +kernel
theorem dX6_painted_27 : decode cX6_painted 27 = .ok (.iconst 4, 1) := by decide +kernel
theorem dX6_painted_28 : decode cX6_painted 28 = .ok (.if_icmp .ne 6, 3) := by decide +kernel
theorem dX6_painted_31 : decode cX6_painted 31 = .ok (.bipush (-3), 2) := by decide +kernel
theorem dX6_painted_33 : decode cX6_painted 33 = .ok (.ireturn, 1) := by decide +kernel
theorem dX6_painted_34 : decode cX6_painted 34 = .ok (.aload_n 0, 1) := by decide +kernel
theorem dX6_painted_35 : decode cX6_painted 35 = .ok (.iconst 0, 1) := by decide +kernel
theorem dX6_painted_36 : decode cX6_painted 36 = .ok (.iload_n 1, 1) := by decide +kernel
theorem dX6_painted_37 : decode cX6_painted 37 = .ok (.iload_n 2, 1) := by decide +kernel
theorem dX6_painted_38 : decode cX6_painted 38 = .ok (.invokevirtual 225, 3) := by decide +kernel
theorem dX6_painted_41 : decode cX6_painted 41 = .ok (.aload_n 0, 1) := by decide +kernel
theorem dX6_painted_42 : decode cX6_painted 42 = .ok (.getfield 7, 3) := by decide +kernel
theorem dX6_painted_45 : decode cX6_painted 45 = .ok (.bipush 6, 2) := by decide +kernel
theorem dX6_painted_47 : decode cX6_painted 47 = .ok (.iload_n 1, 1) := by decide +kernel
theorem dX6_painted_48 : decode cX6_painted 48 = .ok (.iadd, 1) := by decide +kernel
theorem dX6_painted_49 : decode cX6_painted 49 = .ok (.iaload, 1) := by decide +kernel
theorem dX6_painted_50 : decode cX6_painted 50 = .ok (.ireturn, 1) := by decide +kernel
theorem dX6_paint_0 : decode cX6_paint 0 = .ok (.aload_n 0, 1) := by decide +kernel
theorem dX6_paint_1 : decode cX6_paint 1 = .ok (.iload_n 1, 1) := by decide +kernel
theorem dX6_paint_2 : decode cX6_paint 2 = .ok (.iload_n 2, 1) := by decide +kernel
theorem dX6_paint_3 : decode cX6_paint 3 = .ok (.invokevirtual 229, 3) := by decide +kernel
theorem dX6_paint_6 : decode cX6_paint 6 = .ok (.ireturn, 1) := by decide +kernel
theorem dX6_scrape_0 : decode cX6_scrape 0 = .ok (.aload_n 0, 1) := by decide +kernel
theorem dX6_scrape_1 : decode cX6_scrape 1 = .ok (.iload_n 1, 1) := by decide +kernel
theorem dX6_scrape_2 : decode cX6_scrape 2 = .ok (.invokevirtual 198, 3) := by decide +kernel
theorem dX6_scrape_5 : decode cX6_scrape 5 = .ok (.ifCond .ne 5, 3) := by decide +kernel
theorem dX6_scrape_8 : decode cX6_scrape 8 = .ok (.iconst (-1), 1) := by decide +kernel
theorem dX6_scrape_9 : decode cX6_scrape 9 = .ok (.ireturn, 1) := by decide +kernel
theorem dX6_scrape_10 : decode cX6_scrape 10 = .ok (.aload_n 0, 1) := by decide +kernel
theorem dX6_scrape_11 : decode cX6_scrape 11 = .ok (.iconst 0, 1) := by decide +kernel
theorem dX6_scrape_12 : decode cX6_scrape 12 = .ok (.iload_n 1, 1) := by decide +kernel
theorem dX6_scrape_13 : decode cX6_scrape 13 = .ok (.invokevirtual 194, 3) := by decide +kernel
theorem dX6_scrape_16 : decode cX6_scrape 16 = .ok (.istore_n 2, 1) := by decide +kernel
theorem dX6_scrape_17 : decode cX6_scrape 17 = .ok (.aload_n 0, 1) := by decide +kernel
theorem dX6_scrape_18 : decode cX6_scrape 18 = .ok (.getfield 7, 3) := by decide +kernel
theorem dX6_scrape_21 : decode cX6_scrape 21 = .ok (.bipush 6, 2) := by decide +kernel
theorem dX6_scrape_23 : decode cX6_scrape 23 = .ok (.iload_n 1, 1) := by decide +kernel
theorem dX6_scrape_24 : decode cX6_scrape 24 = .ok (.iadd, 1) := by decide +kernel
theorem dX6_scrape_25 : decode cX6_scrape 25 = .ok (.dup2, 1) := by decide +kernel
theorem dX6_scrape_26 : decode cX6_scrape 26 = .ok (.iaload, 1) := by decide +kernel
theorem dX6_scrape_27 : decode cX6_scrape 27 = .ok (.iload_n 2, 1) := by decide +kernel
theorem dX6_scrape_28 : decode cX6_scrape 28 = .ok (.bipush (-4), 2) := by decide +kernel
theorem dX6_scrape_30 : decode cX6_scrape 30 = .ok (.if_icmp .ne 7, 3) := by decide +kernel
theorem dX6_scrape_33 : decode cX6_scrape 33 = .ok (.iconst 0, 1) := by decide +kernel
theorem dX6_scrape_34 : decode cX6_scrape 34 = .ok (.goto 4, 3) := by decide +kernel
theorem dX6_scrape_37 : decode cX6_scrape 37 = .ok (.iconst 1, 1) := by decide +kernel
theorem dX6_scrape_38 : decode cX6_scrape 38 = .ok (.isub, 1) := by decide +kernel
theorem dX6_scrape_39 : decode cX6_scrape 39 = .ok (.iastore, 1) := by decide +kernel
theorem dX6_scrape_40 : decode cX6_scrape 40 = .ok (.iload_n 2, 1) := by decide +kernel
theorem dX6_scrape_41 : decode cX6_scrape 41 = .ok (.bipush (-4), 2) := by decide +kernel
theorem dX6_scrape_43 : decode cX6_scrape 43 = .ok (.if_icmp .ne 8, 3) := by decide +kernel
theorem dX6_scrape_46 : decode cX6_scrape 46 = .ok (.bipush (-2), 2) := by decide +kernel
theorem dX6_scrape_48 : decode cX6_scrape 48 = .ok (.goto 4, 3) := by decide +kernel
theorem dX6_scrape_51 : decode cX6_scrape 51 = .ok (.iload_n 2, 1) := by decide +kernel
theorem dX6_scrape_52 : decode cX6_scrape 52 = .ok (.ireturn, 1) := by decide +kernel
theorem dX6_puts_0 : decode cX6_puts 0 = .ok (.iload_n 1, 1) := by decide +kernel
theorem dX6_puts_1 : decode cX6_puts 1 = .ok (.ifCond .ne 5, 3) := by decide +kernel
theorem dX6_puts_4 : decode cX6_puts 4 = .ok (.iconst (-1), 1) := by decide +kernel
theorem dX6_puts_5 : decode cX6_puts 5 = .ok (.ireturn, 1) := by decide +kernel
theorem dX6_puts_6 : decode cX6_puts 6 = .ok (.aload_n 0, 1) := by decide +kernel
theorem dX6_puts_7 : decode cX6_puts 7 = .ok (.getfield 7, 3) := by decide +kernel
theorem dX6_puts_10 : decode cX6_puts 10 = .ok (.iload_n 2, 1) := by decide +kernel
theorem dX6_puts_11 : decode cX6_puts 11 = .ok (.iaload, 1) := by decide +kernel
theorem dX6_puts_12 : decode cX6_puts 12 = .ok (.iload 4, 2) := by decide +kernel
theorem dX6_puts_14 : decode cX6_puts 14 = .ok (.iadd, 1) := by decide +kernel
theorem dX6_puts_15 : decode cX6_puts 15 = .ok (.istore 5, 2) := by decide +kernel
theorem dX6_puts_17 : decode cX6_puts 17 = .ok (.aload_n 0, 1) := by decide +kernel
theorem dX6_puts_18 : decode cX6_puts 18 = .ok (.getfield 7, 3) := by decide +kernel
theorem dX6_puts_21 : decode cX6_puts 21 = .ok (.iload_n 2, 1) := by decide +kernel
theorem dX6_puts_22 : decode cX6_puts 22 = .ok (.iload_n 3, 1) := by decide +kernel
theorem dX6_puts_23 : decode cX6_puts 23 = .ok (.iload 4, 2) := by decide +kernel
theorem dX6_puts_25 : decode cX6_puts 25 = .ok (.isub, 1) := by decide +kernel
theorem dX6_puts_26 : decode cX6_puts 26 = .ok (.iastore, 1) := by decide +kernel
theorem dX6_puts_27 : decode cX6_puts 27 = .ok (.iload 5, 2) := by decide +kernel
theorem dX6_puts_29 : decode cX6_puts 29 = .ok (.ireturn, 1) := by decide +kernel
theorem dX6_alter_0 : decode cX6_alter 0 = .ok (.iload_n 2, 1) := by decide +kernel
theorem dX6_alter_1 : decode cX6_alter 1 = .ok (.ifCond .ne 7, 3) := by decide +kernel
theorem dX6_alter_4 : decode cX6_alter 4 = .ok (.iconst 3, 1) := by decide +kernel
theorem dX6_alter_5 : decode cX6_alter 5 = .ok (.goto 24, 3) := by decide +kernel
theorem dX6_alter_8 : decode cX6_alter 8 = .ok (.iload_n 2, 1) := by decide +kernel
theorem dX6_alter_9 : decode cX6_alter 9 = .ok (.iconst 1, 1) := by decide +kernel
theorem dX6_alter_10 : decode cX6_alter 10 = .ok (.if_icmp .ne 7, 3) := by decide +kernel
theorem dX6_alter_13 : decode cX6_alter 13 = .ok (.iconst 5, 1) := by decide +kernel
theorem dX6_alter_14 : decode cX6_alter 14 = .ok (.goto 15, 3) := by decide +kernel
theorem dX6_alter_17 : decode cX6_alter 17 = .ok (.iload_n 2, 1) := by decide +kernel
theorem dX6_alter_18 : decode cX6_alter 18 = .ok (.iconst 2, 1) := by decide +kernel
theorem dX6_alter_19 : decode cX6_alter 19 = .ok (.if_icmp .ne 8, 3) := by decide +kernel
theorem dX6_alter_22 : decode cX6_alter 22 = .ok (.bipush 9, 2) := by decide +kernel
theorem dX6_alter_24 : decode cX6_alter 24 = .ok (.goto 5, 3) := by decide +kernel
theorem dX6_alter_27 : decode cX6_alter 27 = .ok (.bipush 127, 2) := by decide +kernel
theorem dX6_alter_29 : decode cX6_alter 29 = .ok (.istore 4, 2) := by decide +kernel
theorem dX6_alter_31 : decode cX6_alter 31 = .ok (.aload_n 0, 1) := by decide +kernel
theorem dX6_alter_32 : decode cX6_alter 32 = .ok (.aload_n 0, 1) := by decide +kernel
theorem dX6_alter_33 : decode cX6_alter 33 = .ok (.iload_n 1, 1) := by decide +kernel
theorem dX6_alter_34 : decode cX6_alter 34 = .ok (.invokevirtual 205, 3) := by decide +kernel
theorem dX6_alter_37 : decode cX6_alter 37 = .ok (.ifCond .eq 31, 3) := by decide +kernel
theorem dX6_alter_40 : decode cX6_alter 40 = .ok (.iload_n 2, 1) := by decide +kernel
theorem dX6_alter_41 : decode cX6_alter 41 = .ok (.i2l, 1) := by decide +kernel
theorem dX6_alter_42 : decode cX6_alter 42 = .ok (.lconst 0, 1) := by decide +kernel
theorem dX6_alter_43 : decode cX6_alter 43 = .ok (.ldc2_w 232, 3) := by decide +kernel
theorem dX6_alter_46 : decode cX6_alter 46 = .ok (.invokestatic 68, 3) := by decide +kernel
theorem dX6_alter_49 : decode cX6_alter 49 = .ok (.ifCond .eq 19, 3) := by decide +kernel
theorem dX6_alter_52 : decode cX6_alter 52 = .ok (.iload_n 3, 1) := by decide +kernel
theorem dX6_alter_53 : decode cX6_alter 53 = .ok (.i2l, 1) := by decide +kernel
theorem dX6_alter_54 : decode cX6_alter 54 = .ok (.lconst 0, 1) := by decide +kernel
theorem dX6_alter_55 : decode cX6_alter 55 = .ok (.iload 4, 2) := by decide +kernel
theorem dX6_alter_57 : decode cX6_alter 57 = .ok (.i2l, 1) := by decide +kernel
theorem dX6_alter_58 : decode cX6_alter 58 = .ok (.invokestatic 68, 3) := by decide +kernel
theorem dX6_alter_61 : decode cX6_alter 61 = .ok (.ifCond .eq 7, 3) := by decide +kernel
theorem dX6_alter_64 : decode cX6_alter 64 = .ok (.iconst 1, 1) := by decide +kernel
theorem dX6_alter_65 : decode cX6_alter 65 = .ok (.goto 4, 3) := by decide +kernel
theorem dX6_alter_68 : decode cX6_alter 68 = .ok (.iconst 0, 1) := by decide +kernel
theorem dX6_alter_69 : decode cX6_alter 69 = .ok (.bipush 36, 2) := by decide +kernel
theorem dX6_alter_71 : decode cX6_alter 71 = .ok (.iconst 5, 1) := by decide +kernel
theorem dX6_alter_72 : decode cX6_alter 72 = .ok (.iload_n 2, 1) := by decide +kernel
theorem dX6_alter_73 : decode cX6_alter 73 = .ok (.imul, 1) := by decide +kernel
theorem dX6_alter_74 : decode cX6_alter 74 = .ok (.iadd, 1) := by decide +kernel
theorem dX6_alter_75 : decode cX6_alter 75 = .ok (.iload_n 1, 1) := by decide +kernel
theorem dX6_alter_76 : decode cX6_alter 76 = .ok (.iadd, 1) := by decide +kernel
theorem dX6_alter_77 : decode cX6_alter 77 = .ok (.iload_n 3, 1) := by decide +kernel
theorem dX6_alter_78 : decode cX6_alter 78 = .ok (.iconst 0, 1) := by decide +kernel
theorem dX6_alter_79 : decode cX6_alter 79 = .ok (.invokevirtual 234, 3) := by decide +kernel
theorem dX6_alter_82 : decode cX6_alter 82 = .ok (.ireturn, 1) := by decide +kernel
theorem dX6_worth_0 : decode cX6_worth 0 = .ok (.aload_n 0, 1) := by decide +kernel
theorem dX6_worth_1 : decode cX6_worth 1 = .ok (.aload_n 0, 1) := by decide +kernel
theorem dX6_worth_2 : decode cX6_worth 2 = .ok (.iload_n 1, 1) := by decide +kernel
theorem dX6_worth_3 : decode cX6_worth 3 = .ok (.invokevirtual 198, 3) := by decide +kernel
theorem dX6_worth_6 : decode cX6_worth 6 = .ok (.ifCond .eq 19, 3) := by decide +kernel
theorem dX6_worth_9 : decode cX6_worth 9 = .ok (.iload_n 2, 1) := by decide +kernel
theorem dX6_worth_10 : decode cX6_worth 10 = .ok (.i2l, 1) := by decide +kernel
theorem dX6_worth_11 : decode cX6_worth 11 = .ok (.lconst 0, 1) := by decide +kernel
theorem dX6_worth_12 : decode cX6_worth 12 = .ok (.ldc2_w 238, 3) := by decide +kernel
theorem dX6_worth_15 : decode cX6_worth 15 = .ok (.invokestatic 68, 3) := by decide +kernel
theorem dX6_worth_18 : decode cX6_worth 18 = .ok (.ifCond .eq 7, 3) := by decide +kernel
theorem dX6_worth_21 : decode cX6_worth 21 = .ok (.iconst 1, 1) := by decide +kernel
theorem dX6_worth_22 : decode cX6_worth 22 = .ok (.goto 4, 3) := by decide +kernel
theorem dX6_worth_25 : decode cX6_worth 25 = .ok (.iconst 0, 1) := by decide +kernel
theorem dX6_worth_26 : decode cX6_worth 26 = .ok (.iload_n 1, 1) := by decide +kernel
theorem dX6_worth_27 : decode cX6_worth 27 = .ok (.iload_n 2, 1) := by decide +kernel
theorem dX6_worth_28 : decode cX6_worth 28 = .ok (.iconst 1, 1) := by decide +kernel
theorem dX6_worth_29 : decode cX6_worth 29 = .ok (.invokevirtual 234, 3) := by decide +kernel
theorem dX6_worth_32 : decode cX6_worth 32 = .ok (.ireturn, 1) := by decide +kernel
theorem dX6_like_0 : decode cX6_like 0 = .ok (.aload_n 0, 1) := by decide +kernel
theorem dX6_like_1 : decode cX6_like 1 = .ok (.iload_n 1, 1) := by decide +kernel
theorem dX6_like_2 : decode cX6_like 2 = .ok (.invokevirtual 205, 3) := by decide +kernel
theorem dX6_like_5 : decode cX6_like 5 = .ok (.ifCond .eq 11, 3) := by decide +kernel
theorem dX6_like_8 : decode cX6_like 8 = .ok (.aload_n 0, 1) := by decide +kernel
theorem dX6_like_9 : decode cX6_like 9 = .ok (.iload_n 2, 1) := by decide +kernel
theorem dX6_like_10 : decode cX6_like 10 = .ok (.invokevirtual 205, 3) := by decide +kernel
theorem dX6_like_13 : decode cX6_like 13 = .ok (.ifCond .ne 7, 3) := by decide +kernel
theorem dX6_like_16 : decode cX6_like 16 = .ok (.iconst (-1), 1) := by decide +kernel
theorem dX6_like_17 : decode cX6_like 17 = .ok (.goto 17, 3) := by decide +kernel
theorem dX6_like_20 : decode cX6_like 20 = .ok (.aload_n 0, 1) := by decide +kernel
theorem dX6_like_21 : decode cX6_like 21 = .ok (.iload_n 1, 1) := by decide +kernel
theorem dX6_like_22 : decode cX6_like 22 = .ok (.iload_n 2, 1) := by decide +kernel
theorem dX6_like_23 : decode cX6_like 23 = .ok (.invokevirtual 217, 3) := by decide +kernel
theorem dX6_like_26 : decode cX6_like 26 = .ok (.ifCond .eq 7, 3) := by decide +kernel
theorem dX6_like_29 : decode cX6_like 29 = .ok (.iconst 1, 1) := by decide +kernel
theorem dX6_like_30 : decode cX6_like 30 = .ok (.goto 4, 3) := by decide +kernel
theorem dX6_like_33 : decode cX6_like 33 = .ok (.iconst 0, 1) := by decide +kernel
theorem dX6_like_34 : decode cX6_like 34 = .ok (.ireturn, 1) := by decide +kernel
theorem dX6_paidOn_0 : decode cX6_paidOn 0 = .ok (.iconst 0, 1) := by decide +kernel
theorem dX6_paidOn_1 : decode cX6_paidOn 1 = .ok (.istore_n 3, 1) := by decide +kernel
theorem dX6_paidOn_2 : decode cX6_paidOn 2 = .ok (.aload_n 0, 1) := by decide +kernel
theorem dX6_paidOn_3 : decode cX6_paidOn 3 = .ok (.iload_n 1, 1) := by decide +kernel
theorem dX6_paidOn_4 : decode cX6_paidOn 4 = .ok (.iload_n 2, 1) := by decide +kernel
theorem dX6_paidOn_5 : decode cX6_paidOn 5 = .ok (.invokevirtual 208, 3) := by decide +kernel
theorem dX6_paidOn_8 : decode cX6_paidOn 8 = .ok (.istore 4, 2) := by decide +kernel
theorem dX6_paidOn_10 : decode cX6_paidOn 10 = .ok (.iconst 0, 1) := by decide +kernel
theorem dX6_paidOn_11 : decode cX6_paidOn 11 = .ok (.istore 5, 2) := by decide +kernel
theorem dX6_paidOn_13 : decode cX6_paidOn 13 = .ok (.iload 5, 2) := by decide +kernel
theorem dX6_paidOn_15 : decode cX6_paidOn 15 = .ok (.aload_n 0, 1) := by decide +kernel
theorem dX6_paidOn_16 : decode cX6_paidOn 16 = .ok (.getfield 13, 3) := by decide +kernel
theorem dX6_paidOn_19 : decode cX6_paidOn 19 = .ok (.if_icmp .ge 33, 3) := by decide +kernel
theorem dX6_paidOn_22 : decode cX6_paidOn 22 = .ok (.iload_n 3, 1) := by decide +kernel
theorem dX6_paidOn_23 : decode cX6_paidOn 23 = .ok (.iload 4, 2) := by decide +kernel
theorem dX6_paidOn_25 : decode cX6_paidOn 25 = .ok (.iload 5, 2) := by decide +kernel
theorem dX6_paidOn_27 : decode cX6_paidOn 27 = .ok (.ishr, 1) := by decide +kernel
theorem dX6_paidOn_28 : decode cX6_paidOn 28 = .ok (.iconst 1, 1) := by decide +kernel
theorem dX6_paidOn_29 : decode cX6_paidOn 29 = .ok (.iand, 1) := by decide +kernel
theorem dX6_paidOn_30 : decode cX6_paidOn 30 = .ok (.iconst 1, 1) := by decide +kernel
theorem dX6_paidOn_31 : decode cX6_paidOn 31 = .ok (.if_icmp .ne 12, 3) := by decide +kernel
theorem dX6_paidOn_34 : decode cX6_paidOn 34 = .ok (.aload_n 0, 1) := by decide +kernel
theorem dX6_paidOn_35 : decode cX6_paidOn 35 = .ok (.iload 5, 2) := by decide +kernel
theorem dX6_paidOn_37 : decode cX6_paidOn 37 = .ok (.invokevirtual 202, 3) := by decide +kernel
theorem dX6_paidOn_40 : decode cX6_paidOn 40 = .ok (.goto 4, 3) := by decide +kernel
theorem dX6_paidOn_43 : decode cX6_paidOn 43 = .ok (.iconst 0, 1) := by decide +kernel
theorem dX6_paidOn_44 : decode cX6_paidOn 44 = .ok (.iadd, 1) := by decide +kernel
theorem dX6_paidOn_45 : decode cX6_paidOn 45 = .ok (.istore_n 3, 1) := by decide +kernel
theorem dX6_paidOn_46 : decode cX6_paidOn 46 = .ok (.iinc 5 1, 3) := by decide +kernel
theorem dX6_paidOn_49 : decode cX6_paidOn 49 = .ok (.goto (-36), 3) := by decide +kernel
theorem dX6_paidOn_52 : decode cX6_paidOn 52 = .ok (.aload_n 0, 1) := by decide +kernel
theorem dX6_paidOn_53 : decode cX6_paidOn 53 = .ok (.getfield 7, 3) := by decide +kernel
theorem dX6_paidOn_56 : decode cX6_paidOn 56 = .ok (.bipush 36, 2) := by decide +kernel
theorem dX6_paidOn_58 : decode cX6_paidOn 58 = .ok (.iload_n 2, 1) := by decide +kernel
theorem dX6_paidOn_59 : decode cX6_paidOn 59 = .ok (.iadd, 1) := by decide +kernel
theorem dX6_paidOn_60 : decode cX6_paidOn 60 = .ok (.iaload, 1) := by decide +kernel
theorem dX6_paidOn_61 : decode cX6_paidOn 61 = .ok (.iconst 2, 1) := by decide +kernel
theorem dX6_paidOn_62 : decode cX6_paidOn 62 = .ok (.if_icmp .ne 9, 3) := by decide +kernel
theorem dX6_paidOn_65 : decode cX6_paidOn 65 = .ok (.iload_n 3, 1) := by decide +kernel
theorem dX6_paidOn_66 : decode cX6_paidOn 66 = .ok (.iconst 2, 1) := by decide +kernel
theorem dX6_paidOn_67 : decode cX6_paidOn 67 = .ok (.idiv, 1) := by decide +kernel
theorem dX6_paidOn_68 : decode cX6_paidOn 68 = .ok (.goto 4, 3) := by decide +kernel
theorem dX6_paidOn_71 : decode cX6_paidOn 71 = .ok (.iload_n 3, 1) := by decide +kernel
theorem dX6_paidOn_72 : decode cX6_paidOn 72 = .ok (.ireturn, 1) := by decide +kernel
theorem dX6_dayOn_0 : decode cX6_dayOn 0 = .ok (.aload_n 0, 1) := by decide +kernel
theorem dX6_dayOn_1 : decode cX6_dayOn 1 = .ok (.getfield 7, 3) := by decide +kernel
theorem dX6_dayOn_4 : decode cX6_dayOn 4 = .ok (.iload_n 1, 1) := by decide +kernel
theorem dX6_dayOn_5 : decode cX6_dayOn 5 = .ok (.bipush 61, 2) := by decide +kernel
theorem dX6_dayOn_7 : decode cX6_dayOn 7 = .ok (.iadd, 1) := by decide +kernel
theorem dX6_dayOn_8 : decode cX6_dayOn 8 = .ok (.iaload, 1) := by decide +kernel
theorem dX6_dayOn_9 : decode cX6_dayOn 9 = .ok (.istore_n 2, 1) := by decide +kernel
theorem dX6_dayOn_10 : decode cX6_dayOn 10 = .ok (.aload_n 0, 1) := by decide +kernel
theorem dX6_dayOn_11 : decode cX6_dayOn 11 = .ok (.getfield 7, 3) := by decide +kernel
theorem dX6_dayOn_14 : decode cX6_dayOn 14 = .ok (.iload_n 1, 1) := by decide +kernel
theorem dX6_dayOn_15 : decode cX6_dayOn 15 = .ok (.bipush 62, 2) := by decide +kernel
theorem dX6_dayOn_17 : decode cX6_dayOn 17 = .ok (.iadd, 1) := by decide +kernel
theorem dX6_dayOn_18 : decode cX6_dayOn 18 = .ok (.iaload, 1) := by decide +kernel
theorem dX6_dayOn_19 : decode cX6_dayOn 19 = .ok (.istore_n 3, 1) := by decide +kernel
theorem dX6_dayOn_20 : decode cX6_dayOn 20 = .ok (.iconst 0, 1) := by decide +kernel
theorem dX6_dayOn_21 : decode cX6_dayOn 21 = .ok (.istore 4, 2) := by decide +kernel
theorem dX6_dayOn_23 : decode cX6_dayOn 23 = .ok (.iconst 0, 1) := by decide +kernel
theorem dX6_dayOn_24 : decode cX6_dayOn 24 = .ok (.istore 5, 2) := by decide +kernel
theorem dX6_dayOn_26 : decode cX6_dayOn 26 = .ok (.iload 5, 2) := by decide +kernel
theorem dX6_dayOn_28 : decode cX6_dayOn 28 = .ok (.aload_n 0, 1) := by decide +kernel
theorem dX6_dayOn_29 : decode cX6_dayOn 29 = .ok (.getfield 182, 3) := by decide +kernel
theorem dX6_dayOn_32 : decode cX6_dayOn 32 = .ok (.if_icmp .ge 77, 3) := by decide +kernel
theorem dX6_dayOn_35 : decode cX6_dayOn 35 = .ok (.iload 4, 2) := by decide +kernel
theorem dX6_dayOn_37 : decode cX6_dayOn 37 = .ok (.ifCond .ne 72, 3) := by decide +kernel
theorem dX6_dayOn_40 : decode cX6_dayOn 40 = .ok (.iload_n 3, 1) := by decide +kernel
theorem dX6_dayOn_41 : decode cX6_dayOn 41 = .ok (.iload 5, 2) := by decide +kernel
theorem dX6_dayOn_43 : decode cX6_dayOn 43 = .ok (.iadd, 1) := by decide +kernel
theorem dX6_dayOn_44 : decode cX6_dayOn 44 = .ok (.aload_n 0, 1) := by decide +kernel
theorem dX6_dayOn_45 : decode cX6_dayOn 45 = .ok (.getfield 182, 3) := by decide +kernel
theorem dX6_dayOn_48 : decode cX6_dayOn 48 = .ok (.irem, 1) := by decide +kernel
theorem dX6_dayOn_49 : decode cX6_dayOn 49 = .ok (.istore 6, 2) := by decide +kernel
theorem dX6_dayOn_51 : decode cX6_dayOn 51 = .ok (.aload_n 0, 1) := by decide +kernel
theorem dX6_dayOn_52 : decode cX6_dayOn 52 = .ok (.getfield 7, 3) := by decide +kernel
theorem dX6_dayOn_55 : decode cX6_dayOn 55 = .ok (.iload_n 1, 1) := by decide +kernel
theorem dX6_dayOn_56 : decode cX6_dayOn 56 = .ok (.bipush 51, 2) := by decide +kernel
theorem dX6_dayOn_58 : decode cX6_dayOn 58 = .ok (.iadd, 1) := by decide +kernel
theorem dX6_dayOn_59 : decode cX6_dayOn 59 = .ok (.iload 6, 2) := by decide +kernel
theorem dX6_dayOn_61 : decode cX6_dayOn 61 = .ok (.iadd, 1) := by decide +kernel
theorem dX6_dayOn_62 : decode cX6_dayOn 62 = .ok (.iaload, 1) := by decide +kernel
theorem dX6_dayOn_63 : decode cX6_dayOn 63 = .ok (.iload_n 2, 1) := by decide +kernel
theorem dX6_dayOn_64 : decode cX6_dayOn 64 = .ok (.bipush 7, 2) := by decide +kernel
theorem dX6_dayOn_66 : decode cX6_dayOn 66 = .ok (.irem, 1) := by decide +kernel
theorem dX6_dayOn_67 : decode cX6_dayOn 67 = .ok (.ishr, 1) := by decide +kernel
theorem dX6_dayOn_68 : decode cX6_dayOn 68 = .ok (.iconst 1, 1) := by decide +kernel
theorem dX6_dayOn_69 : decode cX6_dayOn 69 = .ok (.iand, 1) := by decide +kernel
theorem dX6_dayOn_70 : decode cX6_dayOn 70 = .ok (.iconst 1, 1) := by decide +kernel
theorem dX6_dayOn_71 : decode cX6_dayOn 71 = .ok (.if_icmp .ne 32, 3) := by decide +kernel
theorem dX6_dayOn_74 : decode cX6_dayOn 74 = .ok (.aload_n 0, 1) := by decide +kernel
theorem dX6_dayOn_75 : decode cX6_dayOn 75 = .ok (.iload_n 1, 1) := by decide +kernel
theorem dX6_dayOn_76 : decode cX6_dayOn 76 = .ok (.iload_n 2, 1) := by decide +kernel
theorem dX6_dayOn_77 : decode cX6_dayOn 77 = .ok (.aload_n 0, 1) := by decide +kernel
theorem dX6_dayOn_78 : decode cX6_dayOn 78 = .ok (.getfield 13, 3) := by decide +kernel
theorem dX6_dayOn_81 : decode cX6_dayOn 81 = .ok (.irem, 1) := by decide +kernel
theorem dX6_dayOn_82 : decode cX6_dayOn 82 = .ok (.iload 6, 2) := by decide +kernel
theorem dX6_dayOn_84 : decode cX6_dayOn 84 = .ok (.invokevirtual 225, 3) := by decide +kernel
theorem dX6_dayOn_87 : decode cX6_dayOn 87 = .ok (.aload_n 0, 1) := by decide +kernel
theorem dX6_dayOn_88 : decode cX6_dayOn 88 = .ok (.getfield 7, 3) := by decide +kernel
theorem dX6_dayOn_91 : decode cX6_dayOn 91 = .ok (.iload_n 1, 1) := by decide +kernel
theorem dX6_dayOn_92 : decode cX6_dayOn 92 = .ok (.bipush 62, 2) := by decide +kernel
theorem dX6_dayOn_94 : decode cX6_dayOn 94 = .ok (.iadd, 1) := by decide +kernel
theorem dX6_dayOn_95 : decode cX6_dayOn 95 = .ok (.iload 6, 2) := by decide +kernel
theorem dX6_dayOn_97 : decode cX6_dayOn 97 = .ok (.iconst 1, 1) := by decide +kernel
theorem dX6_dayOn_98 : decode cX6_dayOn 98 = .ok (.iadd, 1) := by decide +kernel
theorem dX6_dayOn_99 : decode cX6_dayOn 99 = .ok (.iastore, 1) := by decide +kernel
theorem dX6_dayOn_100 : decode cX6_dayOn 100 = .ok (.iconst 1, 1) := by decide +kernel
theorem dX6_dayOn_101 : decode cX6_dayOn 101 = .ok (.istore 4, 2) := by decide +kernel
theorem dX6_dayOn_103 : decode cX6_dayOn 103 = .ok (.iinc 5 1, 3) := by decide +kernel
theorem dX6_dayOn_106 : decode cX6_dayOn 106 = .ok (.goto (-80), 3) := by decide +kernel
theorem dX6_dayOn_109 : decode cX6_dayOn 109 = .ok (.iconst 0, 1) := by decide +kernel
theorem dX6_dayOn_110 : decode cX6_dayOn 110 = .ok (.istore 5, 2) := by decide +kernel
theorem dX6_dayOn_112 : decode cX6_dayOn 112 = .ok (.iload 5, 2) := by decide +kernel
theorem dX6_dayOn_114 : decode cX6_dayOn 114 = .ok (.aload_n 0, 1) := by decide +kernel
theorem dX6_dayOn_115 : decode cX6_dayOn 115 = .ok (.getfield 182, 3) := by decide +kernel
theorem dX6_dayOn_118 : decode cX6_dayOn 118 = .ok (.if_icmp .ge 59, 3) := by decide +kernel
theorem dX6_dayOn_121 : decode cX6_dayOn 121 = .ok (.aload_n 0, 1) := by decide +kernel
theorem dX6_dayOn_122 : decode cX6_dayOn 122 = .ok (.getfield 7, 3) := by decide +kernel
theorem dX6_dayOn_125 : decode cX6_dayOn 125 = .ok (.iload_n 1, 1) := by decide +kernel
theorem dX6_dayOn_126 : decode cX6_dayOn 126 = .ok (.bipush 56, 2) := by decide +kernel
theorem dX6_dayOn_128 : decode cX6_dayOn 128 = .ok (.iadd, 1) := by decide +kernel
theorem dX6_dayOn_129 : decode cX6_dayOn 129 = .ok (.iload 5, 2) := by decide +kernel
theorem dX6_dayOn_131 : decode cX6_dayOn 131 = .ok (.iadd, 1) := by decide +kernel
theorem dX6_dayOn_132 : decode cX6_dayOn 132 = .ok (.iaload, 1) := by decide +kernel
theorem dX6_dayOn_133 : decode cX6_dayOn 133 = .ok (.aload_n 0, 1) := by decide +kernel
theorem dX6_dayOn_134 : decode cX6_dayOn 134 = .ok (.iload_n 1, 1) := by decide +kernel
theorem dX6_dayOn_135 : decode cX6_dayOn 135 = .ok (.iload 5, 2) := by decide +kernel
theorem dX6_dayOn_137 : decode cX6_dayOn 137 = .ok (.invokevirtual 240, 3) := by decide +kernel
theorem dX6_dayOn_140 : decode cX6_dayOn 140 = .ok (.iadd, 1) := by decide +kernel
theorem dX6_dayOn_141 : decode cX6_dayOn 141 = .ok (.istore 6, 2) := by decide +kernel
theorem dX6_dayOn_143 : decode cX6_dayOn 143 = .ok (.aload_n 0, 1) := by decide +kernel
theorem dX6_dayOn_144 : decode cX6_dayOn 144 = .ok (.getfield 7, 3) := by decide +kernel
theorem dX6_dayOn_147 : decode cX6_dayOn 147 = .ok (.iload_n 1, 1) := by decide +kernel
theorem dX6_dayOn_148 : decode cX6_dayOn 148 = .ok (.bipush 56, 2) := by decide +kernel
theorem dX6_dayOn_150 : decode cX6_dayOn 150 = .ok (.iadd, 1) := by decide +kernel
theorem dX6_dayOn_151 : decode cX6_dayOn 151 = .ok (.iload 5, 2) := by decide +kernel
theorem dX6_dayOn_153 : decode cX6_dayOn 153 = .ok (.iadd, 1) := by decide +kernel
theorem dX6_dayOn_154 : decode cX6_dayOn 154 = .ok (.iload 6, 2) := by decide +kernel
theorem dX6_dayOn_156 : decode cX6_dayOn 156 = .ok (.sipush 999, 3) := by decide +kernel
theorem dX6_dayOn_159 : decode cX6_dayOn 159 = .ok (.if_icmp .le 9, 3) := by decide +kernel
theorem dX6_dayOn_162 : decode cX6_dayOn 162 = .ok (.sipush 999, 3) := by decide +kernel
theorem dX6_dayOn_165 : decode cX6_dayOn 165 = .ok (.goto 5, 3) := by decide +kernel
theorem dX6_dayOn_168 : decode cX6_dayOn 168 = .ok (.iload 6, 2) := by decide +kernel
theorem dX6_dayOn_170 : decode cX6_dayOn 170 = .ok (.iastore, 1) := by decide +kernel
theorem dX6_dayOn_171 : decode cX6_dayOn 171 = .ok (.iinc 5 1, 3) := by decide +kernel
theorem dX6_dayOn_174 : decode cX6_dayOn 174 = .ok (.goto (-62), 3) := by decide +kernel
theorem dX6_dayOn_177 : decode cX6_dayOn 177 = .ok (.aload_n 0, 1) := by decide +kernel
theorem dX6_dayOn_178 : decode cX6_dayOn 178 = .ok (.getfield 7, 3) := by decide +kernel
theorem dX6_dayOn_181 : decode cX6_dayOn 181 = .ok (.iload_n 1, 1) := by decide +kernel
theorem dX6_dayOn_182 : decode cX6_dayOn 182 = .ok (.bipush 61, 2) := by decide +kernel
theorem dX6_dayOn_184 : decode cX6_dayOn 184 = .ok (.iadd, 1) := by decide +kernel
theorem dX6_dayOn_185 : decode cX6_dayOn 185 = .ok (.dup2, 1) := by decide +kernel
theorem dX6_dayOn_186 : decode cX6_dayOn 186 = .ok (.iaload, 1) := by decide +kernel
theorem dX6_dayOn_187 : decode cX6_dayOn 187 = .ok (.iconst 1, 1) := by decide +kernel
theorem dX6_dayOn_188 : decode cX6_dayOn 188 = .ok (.iadd, 1) := by decide +kernel
theorem dX6_dayOn_189 : decode cX6_dayOn 189 = .ok (.iastore, 1) := by decide +kernel
theorem dX6_dayOn_190 : decode cX6_dayOn 190 = .ok (.iload 4, 2) := by decide +kernel
theorem dX6_dayOn_192 : decode cX6_dayOn 192 = .ok (.ireturn, 1) := by decide +kernel
theorem dX6_copies_0 : decode cX6_copies 0 = .ok (.iconst 0, 1) := by decide +kernel
theorem dX6_copies_1 : decode cX6_copies 1 = .ok (.istore_n 3, 1) := by decide +kernel
theorem dX6_copies_2 : decode cX6_copies 2 = .ok (.iload_n 3, 1) := by decide +kernel
theorem dX6_copies_3 : decode cX6_copies 3 = .ok (.bipush 63, 2) := by decide +kernel
theorem dX6_copies_5 : decode cX6_copies 5 = .ok (.if_icmp .ge 25, 3) := by decide +kernel
theorem dX6_copies_8 : decode cX6_copies 8 = .ok (.aload_n 0, 1) := by decide +kernel
theorem dX6_copies_9 : decode cX6_copies 9 = .ok (.getfield 7, 3) := by decide +kernel
theorem dX6_copies_12 : decode cX6_copies 12 = .ok (.iload_n 2, 1) := by decide +kernel
theorem dX6_copies_13 : decode cX6_copies 13 = .ok (.iload_n 3, 1) := by decide +kernel
theorem dX6_copies_14 : decode cX6_copies 14 = .ok (.iadd, 1) := by decide +kernel
theorem dX6_copies_15 : decode cX6_copies 15 = .ok (.aload_n 0, 1) := by decide +kernel
theorem dX6_copies_16 : decode cX6_copies 16 = .ok (.getfield 7, 3) := by decide +kernel
theorem dX6_copies_19 : decode cX6_copies 19 = .ok (.iload_n 1, 1) := by decide +kernel
theorem dX6_copies_20 : decode cX6_copies 20 = .ok (.iload_n 3, 1) := by decide +kernel
theorem dX6_copies_21 : decode cX6_copies 21 = .ok (.iadd, 1) := by decide +kernel
theorem dX6_copies_22 : decode cX6_copies 22 = .ok (.iaload, 1) := by decide +kernel
theorem dX6_copies_23 : decode cX6_copies 23 = .ok (.iastore, 1) := by decide +kernel
theorem dX6_copies_24 : decode cX6_copies 24 = .ok (.iinc 3 1, 3) := by decide +kernel
theorem dX6_copies_27 : decode cX6_copies 27 = .ok (.goto (-25), 3) := by decide +kernel
theorem dX6_copies_30 : decode cX6_copies 30 = .ok (.return_, 1) := by decide +kernel
theorem dX6_go_0 : decode cX6_go 0 = .ok (.iload_n 1, 1) := by decide +kernel
theorem dX6_go_1 : decode cX6_go 1 = .ok (.i2l, 1) := by decide +kernel
theorem dX6_go_2 : decode cX6_go 2 = .ok (.lconst 0, 1) := by decide +kernel
theorem dX6_go_3 : decode cX6_go 3 = .ok (.ldc2_w 243, 3) := by decide +kernel
theorem dX6_go_6 : decode cX6_go 6 = .ok (.invokestatic 68, 3) := by decide +kernel
theorem dX6_go_9 : decode cX6_go 9 = .ok (.ifCond .ne 5, 3) := by decide +kernel
theorem dX6_go_12 : decode cX6_go 12 = .ok (.iconst (-1), 1) := by decide +kernel
theorem dX6_go_13 : decode cX6_go 13 = .ok (.ireturn, 1) := by decide +kernel
theorem dX6_go_14 : decode cX6_go 14 = .ok (.aload_n 0, 1) := by decide +kernel
theorem dX6_go_15 : decode cX6_go 15 = .ok (.getfield 7, 3) := by decide +kernel
theorem dX6_go_18 : decode cX6_go 18 = .ok (.bipush 61, 2) := by decide +kernel
theorem dX6_go_20 : decode cX6_go 20 = .ok (.iaload, 1) := by decide +kernel
theorem dX6_go_21 : decode cX6_go 21 = .ok (.iload_n 1, 1) := by decide +kernel
theorem dX6_go_22 : decode cX6_go 22 = .ok (.iadd, 1) := by decide +kernel
theorem dX6_go_23 : decode cX6_go 23 = .ok (.sipush 999, 3) := by decide +kernel
theorem dX6_go_26 : decode cX6_go 26 = .ok (.if_icmp .le 6, 3) := by decide +kernel
theorem dX6_go_29 : decode cX6_go 29 = .ok (.bipush (-3), 2) := by decide +kernel
theorem dX6_go_31 : decode cX6_go 31 = .ok (.ireturn, 1) := by decide +kernel
theorem dX6_go_32 : decode cX6_go 32 = .ok (.iconst 0, 1) := by decide +kernel
theorem dX6_go_33 : decode cX6_go 33 = .ok (.istore_n 2, 1) := by decide +kernel
theorem dX6_go_34 : decode cX6_go 34 = .ok (.iconst 0, 1) := by decide +kernel
theorem dX6_go_35 : decode cX6_go 35 = .ok (.istore_n 3, 1) := by decide +kernel
theorem dX6_go_36 : decode cX6_go 36 = .ok (.iload_n 3, 1) := by decide +kernel
theorem dX6_go_37 : decode cX6_go 37 = .ok (.iload_n 1, 1) := by decide +kernel
theorem dX6_go_38 : decode cX6_go 38 = .ok (.if_icmp .ge 17, 3) := by decide +kernel
theorem dX6_go_41 : decode cX6_go 41 = .ok (.iload_n 2, 1) := by decide +kernel
theorem dX6_go_42 : decode cX6_go 42 = .ok (.aload_n 0, 1) := by decide +kernel
theorem dX6_go_43 : decode cX6_go 43 = .ok (.iconst 0, 1) := by decide +kernel
theorem dX6_go_44 : decode cX6_go 44 = .ok (.invokevirtual 245, 3) := by decide +kernel
theorem dX6_go_47 : decode cX6_go 47 = .ok (.iadd, 1) := by decide +kernel
theorem dX6_go_48 : decode cX6_go 48 = .ok (.istore_n 2, 1) := by decide +kernel
theorem dX6_go_49 : decode cX6_go 49 = .ok (.iinc 3 1, 3) := by decide +kernel
theorem dX6_go_52 : decode cX6_go 52 = .ok (.goto (-16), 3) := by decide +kernel
theorem dX6_go_55 : decode cX6_go 55 = .ok (.iload_n 2, 1) := by decide +kernel
theorem dX6_go_56 : decode cX6_go 56 = .ok (.ireturn, 1) := by decide +kernel
theorem dX6_ahead_0 : decode cX6_ahead 0 = .ok (.aload_n 0, 1) := by decide +kernel
theorem dX6_ahead_1 : decode cX6_ahead 1 = .ok (.iload_n 1, 1) := by decide +kernel
theorem dX6_ahead_2 : decode cX6_ahead 2 = .ok (.invokevirtual 205, 3) := by decide +kernel
theorem dX6_ahead_5 : decode cX6_ahead 5 = .ok (.ifCond .eq 25, 3) := by decide +kernel
theorem dX6_ahead_8 : decode cX6_ahead 8 = .ok (.iload_n 2, 1) := by decide +kernel
theorem dX6_ahead_9 : decode cX6_ahead 9 = .ok (.i2l, 1) := by decide +kernel
theorem dX6_ahead_10 : decode cX6_ahead 10 = .ok (.lconst 0, 1) := by decide +kernel
theorem dX6_ahead_11 : decode cX6_ahead 11 = .ok (.ldc2_w 243, 3) := by decide +kernel
theorem dX6_ahead_14 : decode cX6_ahead 14 = .ok (.invokestatic 68, 3) := by decide +kernel
theorem dX6_ahead_17 : decode cX6_ahead 17 = .ok (.ifCond .eq 13, 3) := by decide +kernel
theorem dX6_ahead_20 : decode cX6_ahead 20 = .ok (.iload_n 3, 1) := by decide +kernel
theorem dX6_ahead_21 : decode cX6_ahead 21 = .ok (.i2l, 1) := by decide +kernel
theorem dX6_ahead_22 : decode cX6_ahead 22 = .ok (.lconst 0, 1) := by decide +kernel
theorem dX6_ahead_23 : decode cX6_ahead 23 = .ok (.lconst 1, 1) := by decide +kernel
theorem dX6_ahead_24 : decode cX6_ahead 24 = .ok (.invokestatic 68, 3) := by decide +kernel
theorem dX6_ahead_27 : decode cX6_ahead 27 = .ok (.ifCond .ne 5, 3) := by decide +kernel
theorem dX6_ahead_30 : decode cX6_ahead 30 = .ok (.iconst (-1), 1) := by decide +kernel
theorem dX6_ahead_31 : decode cX6_ahead 31 = .ok (.ireturn, 1) := by decide +kernel
theorem dX6_ahead_32 : decode cX6_ahead 32 = .ok (.aload_n 0, 1) := by decide +kernel
theorem dX6_ahead_33 : decode cX6_ahead 33 = .ok (.iconst 0, 1) := by decide +kernel
theorem dX6_ahead_34 : decode cX6_ahead 34 = .ok (.sipush 252, 3) := by decide +kernel
theorem dX6_ahead_37 : decode cX6_ahead 37 = .ok (.invokevirtual 248, 3) := by decide +kernel
theorem dX6_ahead_40 : decode cX6_ahead 40 = .ok (.iconst 0, 1) := by decide +kernel
theorem dX6_ahead_41 : decode cX6_ahead 41 = .ok (.istore 4, 2) := by decide +kernel
theorem dX6_ahead_43 : decode cX6_ahead 43 = .ok (.iload 4, 2) := by decide +kernel
theorem dX6_ahead_45 : decode cX6_ahead 45 = .ok (.iload_n 2, 1) := by decide +kernel
theorem dX6_ahead_46 : decode cX6_ahead 46 = .ok (.if_icmp .ge 17, 3) := by decide +kernel
theorem dX6_ahead_49 : decode cX6_ahead 49 = .ok (.aload_n 0, 1) := by decide +kernel
theorem dX6_ahead_50 : decode cX6_ahead 50 = .ok (.sipush 252, 3) := by decide +kernel
theorem dX6_ahead_53 : decode cX6_ahead 53 = .ok (.invokevirtual 245, 3) := by decide +kernel
theorem dX6_ahead_56 : decode cX6_ahead 56 = .ok (.pop, 1) := by decide +kernel
theorem dX6_ahead_57 : decode cX6_ahead 57 = .ok (.iinc 4 1, 3) := by decide +kernel
theorem dX6_ahead_60 : decode cX6_ahead 60 = .ok (.goto (-17), 3) := by decide +kernel
theorem dX6_ahead_63 : decode cX6_ahead 63 = .ok (.iload_n 3, 1) := by decide +kernel
theorem dX6_ahead_64 : decode cX6_ahead 64 = .ok (.ifCond .ne 26, 3) := by decide +kernel
theorem dX6_ahead_67 : decode cX6_ahead 67 = .ok (.aload_n 0, 1) := by decide +kernel
theorem dX6_ahead_68 : decode cX6_ahead 68 = .ok (.getfield 7, 3) := by decide +kernel
theorem dX6_ahead_71 : decode cX6_ahead 71 = .ok (.sipush 308, 3) := by decide +kernel
theorem dX6_ahead_74 : decode cX6_ahead 74 = .ok (.iload_n 1, 1) := by decide +kernel
theorem dX6_ahead_75 : decode cX6_ahead 75 = .ok (.iadd, 1) := by decide +kernel
theorem dX6_ahead_76 : decode cX6_ahead 76 = .ok (.iaload, 1) := by decide +kernel
theorem dX6_ahead_77 : decode cX6_ahead 77 = .ok (.aload_n 0, 1) := by decide +kernel
theorem dX6_ahead_78 : decode cX6_ahead 78 = .ok (.getfield 7, 3) := by decide +kernel
theorem dX6_ahead_81 : decode cX6_ahead 81 = .ok (.bipush 56, 2) := by decide +kernel
theorem dX6_ahead_83 : decode cX6_ahead 83 = .ok (.iload_n 1, 1) := by decide +kernel
theorem dX6_ahead_84 : decode cX6_ahead 84 = .ok (.iadd, 1) := by decide +kernel
theorem dX6_ahead_85 : decode cX6_ahead 85 = .ok (.iaload, 1) := by decide +kernel
theorem dX6_ahead_86 : decode cX6_ahead 86 = .ok (.isub, 1) := by decide +kernel
theorem dX6_ahead_87 : decode cX6_ahead 87 = .ok (.goto 11, 3) := by decide +kernel
theorem dX6_ahead_90 : decode cX6_ahead 90 = .ok (.aload_n 0, 1) := by decide +kernel
theorem dX6_ahead_91 : decode cX6_ahead 91 = .ok (.sipush 252, 3) := by decide +kernel
theorem dX6_ahead_94 : decode cX6_ahead 94 = .ok (.iload_n 1, 1) := by decide +kernel
theorem dX6_ahead_95 : decode cX6_ahead 95 = .ok (.invokevirtual 208, 3) := by decide +kernel
theorem dX6_ahead_98 : decode cX6_ahead 98 = .ok (.ireturn, 1) := by decide +kernel
theorem dX6_when_0 : decode cX6_when 0 = .ok (.aload_n 0, 1) := by decide +kernel
theorem dX6_when_1 : decode cX6_when 1 = .ok (.iload_n 1, 1) := by decide +kernel
theorem dX6_when_2 : decode cX6_when 2 = .ok (.invokevirtual 198, 3) := by decide +kernel
theorem dX6_when_5 : decode cX6_when 5 = .ok (.ifCond .eq 11, 3) := by decide +kernel
theorem dX6_when_8 : decode cX6_when 8 = .ok (.aload_n 0, 1) := by decide +kernel
theorem dX6_when_9 : decode cX6_when 9 = .ok (.iload_n 2, 1) := by decide +kernel
theorem dX6_when_10 : decode cX6_when 10 = .ok (.invokevirtual 205, 3) := by decide +kernel
theorem dX6_when_13 : decode cX6_when 13 = .ok (.ifCond .ne 5, 3) := by decide +kernel
theorem dX6_when_16 : decode cX6_when 16 = .ok (.iconst (-1), 1) := by decide +kernel
theorem dX6_when_17 : decode cX6_when 17 = .ok (.ireturn, 1) := by decide +kernel
theorem dX6_when_18 : decode cX6_when 18 = .ok (.aload_n 0, 1) := by decide +kernel
theorem dX6_when_19 : decode cX6_when 19 = .ok (.iconst 0, 1) := by decide +kernel
theorem dX6_when_20 : decode cX6_when 20 = .ok (.sipush 252, 3) := by decide +kernel
theorem dX6_when_23 : decode cX6_when 23 = .ok (.invokevirtual 248, 3) := by decide +kernel
theorem dX6_when_26 : decode cX6_when 26 = .ok (.iconst 0, 1) := by decide +kernel
theorem dX6_when_27 : decode cX6_when 27 = .ok (.istore_n 3, 1) := by decide +kernel
theorem dX6_when_28 : decode cX6_when 28 = .ok (.iload_n 3, 1) := by decide +kernel
theorem dX6_when_29 : decode cX6_when 29 = .ok (.bipush 60, 2) := by decide +kernel
theorem dX6_when_31 : decode cX6_when 31 = .ok (.if_icmp .gt 31, 3) := by decide +kernel
theorem dX6_when_34 : decode cX6_when 34 = .ok (.aload_n 0, 1) := by decide +kernel
theorem dX6_when_35 : decode cX6_when 35 = .ok (.sipush 252, 3) := by decide +kernel
theorem dX6_when_38 : decode cX6_when 38 = .ok (.iload_n 1, 1) := by decide +kernel
theorem dX6_when_39 : decode cX6_when 39 = .ok (.invokevirtual 194, 3) := by decide +kernel
theorem dX6_when_42 : decode cX6_when 42 = .ok (.iload_n 2, 1) := by decide +kernel
theorem dX6_when_43 : decode cX6_when 43 = .ok (.if_icmp .ne 5, 3) := by decide +kernel
theorem dX6_when_46 : decode cX6_when 46 = .ok (.iload_n 3, 1) := by decide +kernel
theorem dX6_when_47 : decode cX6_when 47 = .ok (.ireturn, 1) := by decide +kernel
theorem dX6_when_48 : decode cX6_when 48 = .ok (.aload_n 0, 1) := by decide +kernel
theorem dX6_when_49 : decode cX6_when 49 = .ok (.sipush 252, 3) := by decide +kernel
theorem dX6_when_52 : decode cX6_when 52 = .ok (.invokevirtual 245, 3) := by decide +kernel
theorem dX6_when_55 : decode cX6_when 55 = .ok (.pop, 1) := by decide +kernel
theorem dX6_when_56 : decode cX6_when 56 = .ok (.iinc 3 1, 3) := by decide +kernel
theorem dX6_when_59 : decode cX6_when 59 = .ok (.goto (-31), 3) := by decide +kernel
theorem dX6_when_62 : decode cX6_when 62 = .ok (.bipush (-4), 2) := by decide +kernel
theorem dX6_when_64 : decode cX6_when 64 = .ok (.ireturn, 1) := by decide +kernel
theorem dX6_even_0 : decode cX6_even 0 = .ok (.aload_n 0, 1) := by decide +kernel
theorem dX6_even_1 : decode cX6_even 1 = .ok (.iconst 0, 1) := by decide +kernel
theorem dX6_even_2 : decode cX6_even 2 = .ok (.sipush 252, 3) := by decide +kernel
theorem dX6_even_5 : decode cX6_even 5 = .ok (.invokevirtual 248, 3) := by decide +kernel
theorem dX6_even_8 : decode cX6_even 8 = .ok (.iconst 0, 1) := by decide +kernel
theorem dX6_even_9 : decode cX6_even 9 = .ok (.istore_n 1, 1) := by decide +kernel
theorem dX6_even_10 : decode cX6_even 10 = .ok (.iload_n 1, 1) := by decide +kernel
theorem dX6_even_11 : decode cX6_even 11 = .ok (.iconst 5, 1) := by decide +kernel
theorem dX6_even_12 : decode cX6_even 12 = .ok (.if_icmp .ge 16, 3) := by decide +kernel
theorem dX6_even_15 : decode cX6_even 15 = .ok (.aload_n 0, 1) := by decide +kernel
theorem dX6_even_16 : decode cX6_even 16 = .ok (.getfield 41, 3) := by decide +kernel
theorem dX6_even_19 : decode cX6_even 19 = .ok (.iload_n 1, 1) := by decide +kernel
theorem dX6_even_20 : decode cX6_even 20 = .ok (.iconst 0, 1) := by decide +kernel
theorem dX6_even_21 : decode cX6_even 21 = .ok (.iastore, 1) := by decide +kernel
theorem dX6_even_22 : decode cX6_even 22 = .ok (.iinc 1 1, 3) := by decide +kernel
theorem dX6_even_25 : decode cX6_even 25 = .ok (.goto (-15), 3) := by decide +kernel
theorem dX6_even_28 : decode cX6_even 28 = .ok (.iconst 1, 1) := by decide +kernel
theorem dX6_even_29 : decode cX6_even 29 = .ok (.istore_n 1, 1) := by decide +kernel
theorem dX6_even_30 : decode cX6_even 30 = .ok (.iload_n 1, 1) := by decide +kernel
theorem dX6_even_31 : decode cX6_even 31 = .ok (.bipush 60, 2) := by decide +kernel
theorem dX6_even_33 : decode cX6_even 33 = .ok (.if_icmp .gt 90, 3) := by decide +kernel
theorem dX6_even_36 : decode cX6_even 36 = .ok (.aload_n 0, 1) := by decide +kernel
theorem dX6_even_37 : decode cX6_even 37 = .ok (.getfield 182, 3) := by decide +kernel
theorem dX6_even_40 : decode cX6_even 40 = .ok (.ifCond .le 83, 3) := by decide +kernel
theorem dX6_even_43 : decode cX6_even 43 = .ok (.aload_n 0, 1) := by decide +kernel
theorem dX6_even_44 : decode cX6_even 44 = .ok (.sipush 252, 3) := by decide +kernel
theorem dX6_even_47 : decode cX6_even 47 = .ok (.invokevirtual 245, 3) := by decide +kernel
theorem dX6_even_50 : decode cX6_even 50 = .ok (.pop, 1) := by decide +kernel
theorem dX6_even_51 : decode cX6_even 51 = .ok (.iconst 1, 1) := by decide +kernel
theorem dX6_even_52 : decode cX6_even 52 = .ok (.istore_n 2, 1) := by decide +kernel
theorem dX6_even_53 : decode cX6_even 53 = .ok (.iconst 0, 1) := by decide +kernel
theorem dX6_even_54 : decode cX6_even 54 = .ok (.istore_n 3, 1) := by decide +kernel
theorem dX6_even_55 : decode cX6_even 55 = .ok (.iload_n 3, 1) := by decide +kernel
theorem dX6_even_56 : decode cX6_even 56 = .ok (.aload_n 0, 1) := by decide +kernel
theorem dX6_even_57 : decode cX6_even 57 = .ok (.getfield 182, 3) := by decide +kernel
theorem dX6_even_60 : decode cX6_even 60 = .ok (.if_icmp .ge 51, 3) := by decide +kernel
theorem dX6_even_63 : decode cX6_even 63 = .ok (.aload_n 0, 1) := by decide +kernel
theorem dX6_even_64 : decode cX6_even 64 = .ok (.getfield 41, 3) := by decide +kernel
theorem dX6_even_67 : decode cX6_even 67 = .ok (.iload_n 3, 1) := by decide +kernel
theorem dX6_even_68 : decode cX6_even 68 = .ok (.dup2, 1) := by decide +kernel
theorem dX6_even_69 : decode cX6_even 69 = .ok (.iaload, 1) := by decide +kernel
theorem dX6_even_70 : decode cX6_even 70 = .ok (.aload_n 0, 1) := by decide +kernel
theorem dX6_even_71 : decode cX6_even 71 = .ok (.sipush 252, 3) := by decide +kernel
theorem dX6_even_74 : decode cX6_even 74 = .ok (.iload_n 3, 1) := by decide +kernel
theorem dX6_even_75 : decode cX6_even 75 = .ok (.invokevirtual 240, 3) := by decide +kernel
theorem dX6_even_78 : decode cX6_even 78 = .ok (.iadd, 1) := by decide +kernel
theorem dX6_even_79 : decode cX6_even 79 = .ok (.iastore, 1) := by decide +kernel
theorem dX6_even_80 : decode cX6_even 80 = .ok (.iload_n 2, 1) := by decide +kernel
theorem dX6_even_81 : decode cX6_even 81 = .ok (.ifCond .eq 22, 3) := by decide +kernel
theorem dX6_even_84 : decode cX6_even 84 = .ok (.aload_n 0, 1) := by decide +kernel
theorem dX6_even_85 : decode cX6_even 85 = .ok (.getfield 41, 3) := by decide +kernel
theorem dX6_even_88 : decode cX6_even 88 = .ok (.iload_n 3, 1) := by decide +kernel
theorem dX6_even_89 : decode cX6_even 89 = .ok (.iaload, 1) := by decide +kernel
theorem dX6_even_90 : decode cX6_even 90 = .ok (.aload_n 0, 1) := by decide +kernel
theorem dX6_even_91 : decode cX6_even 91 = .ok (.getfield 41, 3) := by decide +kernel
theorem dX6_even_94 : decode cX6_even 94 = .ok (.iconst 0, 1) := by decide +kernel
theorem dX6_even_95 : decode cX6_even 95 = .ok (.iaload, 1) := by decide +kernel
theorem dX6_even_96 : decode cX6_even 96 = .ok (.if_icmp .ne 7, 3) := by decide +kernel
theorem dX6_even_99 : decode cX6_even 99 = .ok (.iconst 1, 1) := by decide +kernel
theorem dX6_even_100 : decode cX6_even 100 = .ok (.goto 4, 3) := by decide +kernel
theorem dX6_even_103 : decode cX6_even 103 = .ok (.iconst 0, 1) := by decide +kernel
theorem dX6_even_104 : decode cX6_even 104 = .ok (.istore_n 2, 1) := by decide +kernel
theorem dX6_even_105 : decode cX6_even 105 = .ok (.iinc 3 1, 3) := by decide +kernel
theorem dX6_even_108 : decode cX6_even 108 = .ok (.goto (-53), 3) := by decide +kernel
theorem dX6_even_111 : decode cX6_even 111 = .ok (.iload_n 2, 1) := by decide +kernel
theorem dX6_even_112 : decode cX6_even 112 = .ok (.ifCond .eq 5, 3) := by decide +kernel
theorem dX6_even_115 : decode cX6_even 115 = .ok (.iload_n 1, 1) := by decide +kernel
theorem dX6_even_116 : decode cX6_even 116 = .ok (.ireturn, 1) := by decide +kernel
theorem dX6_even_117 : decode cX6_even 117 = .ok (.iinc 1 1, 3) := by decide +kernel
theorem dX6_even_120 : decode cX6_even 120 = .ok (.goto (-90), 3) := by decide +kernel
theorem dX6_even_123 : decode cX6_even 123 = .ok (.bipush (-4), 2) := by decide +kernel
theorem dX6_even_125 : decode cX6_even 125 = .ok (.ireturn, 1) := by decide +kernel
theorem dX6_pictures_0 : decode cX6_pictures 0 = .ok (.iconst 1, 1) := by decide +kernel
theorem dX6_pictures_1 : decode cX6_pictures 1 = .ok (.istore_n 1, 1) := by decide +kernel
theorem dX6_pictures_2 : decode cX6_pictures 2 = .ok (.iconst 0, 1) := by decide +kernel
theorem dX6_pictures_3 : decode cX6_pictures 3 = .ok (.istore_n 2, 1) := by decide +kernel
theorem dX6_pictures_4 : decode cX6_pictures 4 = .ok (.iload_n 2, 1) := by decide +kernel
theorem dX6_pictures_5 : decode cX6_pictures 5 = .ok (.aload_n 0, 1) := by decide +kernel
theorem dX6_pictures_6 : decode cX6_pictures 6 = .ok (.getfield 13, 3) := by decide +kernel
theorem dX6_pictures_9 : decode cX6_pictures 9 = .ok (.if_icmp .ge 16, 3) := by decide +kernel
theorem dX6_pictures_12 : decode cX6_pictures 12 = .ok (.iload_n 1, 1) := by decide +kernel
theorem dX6_pictures_13 : decode cX6_pictures 13 = .ok (.aload_n 0, 1) := by decide +kernel
theorem dX6_pictures_14 : decode cX6_pictures 14 = .ok (.getfield 182, 3) := by decide +kernel
theorem dX6_pictures_17 : decode cX6_pictures 17 = .ok (.imul, 1) := by decide +kernel
theorem dX6_pictures_18 : decode cX6_pictures 18 = .ok (.istore_n 1, 1) := by decide +kernel
theorem dX6_pictures_19 : decode cX6_pictures 19 = .ok (.iinc 2 1, 3) := by decide +kernel
theorem dX6_pictures_22 : decode cX6_pictures 22 = .ok (.goto (-18), 3) := by decide +kernel
theorem dX6_pictures_25 : decode cX6_pictures 25 = .ok (.iload_n 1, 1) := by decide +kernel
theorem dX6_pictures_26 : decode cX6_pictures 26 = .ok (.ireturn, 1) := by decide +kernel
theorem dX6_laysPicture_0 : decode cX6_laysPicture 0 = .ok (.iload_n 1, 1) := by decide +kernel
theorem dX6_laysPicture_1 : decode cX6_laysPicture 1 = .ok (.istore_n 2, 1) := by decide +kernel
theorem dX6_laysPicture_2 : decode cX6_laysPicture 2 = .ok (.aload_n 0, 1) := by decide +kernel
theorem dX6_laysPicture_3 : decode cX6_laysPicture 3 = .ok (.getfield 13, 3) := by decide +kernel
theorem dX6_laysPicture_6 : decode cX6_laysPicture 6 = .ok (.iconst 1, 1) := by decide +kernel
theorem dX6_laysPicture_7 : decode cX6_laysPicture 7 = .ok (.isub, 1) := by decide +kernel
theorem dX6_laysPicture_8 : decode cX6_laysPicture 8 = .ok (.istore_n 3, 1) := by decide +kernel
theorem dX6_laysPicture_9 : decode cX6_laysPicture 9 = .ok (.iload_n 3, 1) := by decide +kernel
theorem dX6_laysPicture_10 : decode cX6_laysPicture 10 = .ok (.ifCond .lt 28, 3) := by decide +kernel
theorem dX6_laysPicture_13 : decode cX6_laysPicture 13 = .ok (.aload_n 0, 1) := by decide +kernel
theorem dX6_laysPicture_14 : decode cX6_laysPicture 14 = .ok (.getfield 44, 3) := by decide +kernel
theorem dX6_laysPicture_17 : decode cX6_laysPicture 17 = .ok (.iload_n 3, 1) := by decide +kernel
theorem dX6_laysPicture_18 : decode cX6_laysPicture 18 = .ok (.iload_n 2, 1) := by decide +kernel
theorem dX6_laysPicture_19 : decode cX6_laysPicture 19 = .ok (.aload_n 0, 1) := by decide +kernel
theorem dX6_laysPicture_20 : decode cX6_laysPicture 20 = .ok (.getfield 182, 3) := by decide +kernel
theorem dX6_laysPicture_23 : decode cX6_laysPicture 23 = .ok (.irem, 1) := by decide +kernel
theorem dX6_laysPicture_24 : decode cX6_laysPicture 24 = .ok (.iastore, 1) := by decide +kernel
theorem dX6_laysPicture_25 : decode cX6_laysPicture 25 = .ok (.iload_n 2, 1) := by decide +kernel
theorem dX6_laysPicture_26 : decode cX6_laysPicture 26 = .ok (.aload_n 0, 1) := by decide +kernel
theorem dX6_laysPicture_27 : decode cX6_laysPicture 27 = .ok (.getfield 182, 3) := by decide +kernel
theorem dX6_laysPicture_30 : decode cX6_laysPicture 30 = .ok (.idiv, 1) := by decide +kernel
theorem dX6_laysPicture_31 : decode cX6_laysPicture 31 = .ok (.istore_n 2, 1) := by decide +kernel
theorem dX6_laysPicture_32 : decode cX6_laysPicture 32 = .ok (.iinc 3 (-1), 3) := by decide +kernel
theorem dX6_laysPicture_35 : decode cX6_laysPicture 35 = .ok (.goto (-26), 3) := by decide +kernel
theorem dX6_laysPicture_38 : decode cX6_laysPicture 38 = .ok (.iconst 1, 1) := by decide +kernel
theorem dX6_laysPicture_39 : decode cX6_laysPicture 39 = .ok (.istore_n 3, 1) := by decide +kernel
theorem dX6_laysPicture_40 : decode cX6_laysPicture 40 = .ok (.iconst 0, 1) := by decide +kernel
theorem dX6_laysPicture_41 : decode cX6_laysPicture 41 = .ok (.istore 4, 2) := by decide +kernel
theorem dX6_laysPicture_43 : decode cX6_laysPicture 43 = .ok (.iload 4, 2) := by decide +kernel
theorem dX6_laysPicture_45 : decode cX6_laysPicture 45 = .ok (.aload_n 0, 1) := by decide +kernel
theorem dX6_laysPicture_46 : decode cX6_laysPicture 46 = .ok (.getfield 185, 3) := by decide +kernel
theorem dX6_laysPicture_49 : decode cX6_laysPicture 49 = .ok (.if_icmp .ge 56, 3) := by decide +kernel
theorem dX6_laysPicture_52 : decode cX6_laysPicture 52 = .ok (.iload_n 3, 1) := by decide +kernel
theorem dX6_laysPicture_53 : decode cX6_laysPicture 53 = .ok (.ifCond .eq 44, 3) := by decide +kernel
theorem dX6_laysPicture_56 : decode cX6_laysPicture 56 = .ok (.aload_n 0, 1) := by decide +kernel
theorem dX6_laysPicture_57 : decode cX6_laysPicture 57 = .ok (.aload_n 0, 1) := by decide +kernel
theorem dX6_laysPicture_58 : decode cX6_laysPicture 58 = .ok (.getfield 44, 3) := by decide +kernel
theorem dX6_laysPicture_61 : decode cX6_laysPicture 61 = .ok (.aload_n 0, 1) := by decide +kernel
theorem dX6_laysPicture_62 : decode cX6_laysPicture 62 = .ok (.getfield 17, 3) := by decide +kernel
theorem dX6_laysPicture_65 : decode cX6_laysPicture 65 = .ok (.iconst 2, 1) := by decide +kernel
theorem dX6_laysPicture_66 : decode cX6_laysPicture 66 = .ok (.iload 4, 2) := by decide +kernel
theorem dX6_laysPicture_68 : decode cX6_laysPicture 68 = .ok (.imul, 1) := by decide +kernel
theorem dX6_laysPicture_69 : decode cX6_laysPicture 69 = .ok (.iaload, 1) := by decide +kernel
theorem dX6_laysPicture_70 : decode cX6_laysPicture 70 = .ok (.iaload, 1) := by decide +kernel
theorem dX6_laysPicture_71 : decode cX6_laysPicture 71 = .ok (.aload_n 0, 1) := by decide +kernel
theorem dX6_laysPicture_72 : decode cX6_laysPicture 72 = .ok (.getfield 44, 3) := by decide +kernel
theorem dX6_laysPicture_75 : decode cX6_laysPicture 75 = .ok (.aload_n 0, 1) := by decide +kernel
theorem dX6_laysPicture_76 : decode cX6_laysPicture 76 = .ok (.getfield 17, 3) := by decide +kernel
theorem dX6_laysPicture_79 : decode cX6_laysPicture 79 = .ok (.iconst 2, 1) := by decide +kernel
theorem dX6_laysPicture_80 : decode cX6_laysPicture 80 = .ok (.iload 4, 2) := by decide +kernel
theorem dX6_laysPicture_82 : decode cX6_laysPicture 82 = .ok (.imul, 1) := by decide +kernel
theorem dX6_laysPicture_83 : decode cX6_laysPicture 83 = .ok (.iconst 1, 1) := by decide +kernel
theorem dX6_laysPicture_84 : decode cX6_laysPicture 84 = .ok (.iadd, 1) := by decide +kernel
theorem dX6_laysPicture_85 : decode cX6_laysPicture 85 = .ok (.iaload, 1) := by decide +kernel
theorem dX6_laysPicture_86 : decode cX6_laysPicture 86 = .ok (.iaload, 1) := by decide +kernel
theorem dX6_laysPicture_87 : decode cX6_laysPicture 87 = .ok (.invokevirtual 217, 3) := by decide +kernel
theorem dX6_laysPicture_90 : decode cX6_laysPicture 90 = .ok (.ifCond .eq 7, 3) := by decide +kernel
theorem dX6_laysPicture_93 : decode cX6_laysPicture 93 = .ok (.iconst 1, 1) := by decide +kernel
theorem dX6_laysPicture_94 : decode cX6_laysPicture 94 = .ok (.goto 4, 3) := by decide +kernel
theorem dX6_laysPicture_97 : decode cX6_laysPicture 97 = .ok (.iconst 0, 1) := by decide +kernel
theorem dX6_laysPicture_98 : decode cX6_laysPicture 98 = .ok (.istore_n 3, 1) := by decide +kernel
theorem dX6_laysPicture_99 : decode cX6_laysPicture 99 = .ok (.iinc 4 1, 3) := by decide +kernel
theorem dX6_laysPicture_102 : decode cX6_laysPicture 102 = .ok (.goto (-59), 3) := by decide +kernel
theorem dX6_laysPicture_105 : decode cX6_laysPicture 105 = .ok (.iload_n 3, 1) := by decide +kernel
theorem dX6_laysPicture_106 : decode cX6_laysPicture 106 = .ok (.ireturn, 1) := by decide +kernel
theorem dX6_many_0 : decode cX6_many 0 = .ok (.iconst 0, 1) := by decide +kernel
theorem dX6_many_1 : decode cX6_many 1 = .ok (.istore_n 1, 1) := by decide +kernel
theorem dX6_many_2 : decode cX6_many 2 = .ok (.iconst 0, 1) := by decide +kernel
theorem dX6_many_3 : decode cX6_many 3 = .ok (.istore_n 2, 1) := by decide +kernel
theorem dX6_many_4 : decode cX6_many 4 = .ok (.iload_n 2, 1) := by decide +kernel
theorem dX6_many_5 : decode cX6_many 5 = .ok (.aload_n 0, 1) := by decide +kernel
theorem dX6_many_6 : decode cX6_many 6 = .ok (.invokevirtual 252, 3) := by decide +kernel
theorem dX6_many_9 : decode cX6_many 9 = .ok (.if_icmp .ge 25, 3) := by decide +kernel
theorem dX6_many_12 : decode cX6_many 12 = .ok (.iload_n 1, 1) := by decide +kernel
theorem dX6_many_13 : decode cX6_many 13 = .ok (.aload_n 0, 1) := by decide +kernel
theorem dX6_many_14 : decode cX6_many 14 = .ok (.iload_n 2, 1) := by decide +kernel
theorem dX6_many_15 : decode cX6_many 15 = .ok (.invokevirtual 255, 3) := by decide +kernel
theorem dX6_many_18 : decode cX6_many 18 = .ok (.ifCond .eq 7, 3) := by decide +kernel
theorem dX6_many_21 : decode cX6_many 21 = .ok (.iconst 1, 1) := by decide +kernel
theorem dX6_many_22 : decode cX6_many 22 = .ok (.goto 4, 3) := by decide +kernel
theorem dX6_many_25 : decode cX6_many 25 = .ok (.iconst 0, 1) := by decide +kernel
theorem dX6_many_26 : decode cX6_many 26 = .ok (.iadd, 1) := by decide +kernel
theorem dX6_many_27 : decode cX6_many 27 = .ok (.istore_n 1, 1) := by decide +kernel
theorem dX6_many_28 : decode cX6_many 28 = .ok (.iinc 2 1, 3) := by decide +kernel
theorem dX6_many_31 : decode cX6_many 31 = .ok (.goto (-27), 3) := by decide +kernel
theorem dX6_many_34 : decode cX6_many 34 = .ok (.iload_n 1, 1) := by decide +kernel
theorem dX6_many_35 : decode cX6_many 35 = .ok (.ireturn, 1) := by decide +kernel
theorem dX6_mend_0 : decode cX6_mend 0 = .ok (.iload_n 1, 1) := by decide +kernel
theorem dX6_mend_1 : decode cX6_mend 1 = .ok (.i2l, 1) := by decide +kernel
theorem dX6_mend_2 : decode cX6_mend 2 = .ok (.lconst 0, 1) := by decide +kernel
theorem dX6_mend_3 : decode cX6_mend 3 = .ok (.lconst 1, 1) := by decide +kernel
theorem dX6_mend_4 : decode cX6_mend 4 = .ok (.invokestatic 68, 3) := by decide +kernel
theorem dX6_mend_7 : decode cX6_mend 7 = .ok (.ifCond .ne 5, 3) := by decide +kernel
theorem dX6_mend_10 : decode cX6_mend 10 = .ok (.iconst (-1), 1) := by decide +kernel
theorem dX6_mend_11 : decode cX6_mend 11 = .ok (.ireturn, 1) := by decide +kernel
theorem dX6_mend_12 : decode cX6_mend 12 = .ok (.ldc_w 258, 3) := by decide +kernel
theorem dX6_mend_15 : decode cX6_mend 15 = .ok (.istore_n 2, 1) := by decide +kernel
theorem dX6_mend_16 : decode cX6_mend 16 = .ok (.bipush (-4), 2) := by decide +kernel
theorem dX6_mend_18 : decode cX6_mend 18 = .ok (.istore_n 3, 1) := by decide +kernel
theorem dX6_mend_19 : decode cX6_mend 19 = .ok (.iconst 0, 1) := by decide +kernel
theorem dX6_mend_20 : decode cX6_mend 20 = .ok (.istore 4, 2) := by decide +kernel
theorem dX6_mend_22 : decode cX6_mend 22 = .ok (.iload 4, 2) := by decide +kernel
theorem dX6_mend_24 : decode cX6_mend 24 = .ok (.aload_n 0, 1) := by decide +kernel
theorem dX6_mend_25 : decode cX6_mend 25 = .ok (.invokevirtual 252, 3) := by decide +kernel
theorem dX6_mend_28 : decode cX6_mend 28 = .ok (.if_icmp .ge 92, 3) := by decide +kernel
theorem dX6_mend_31 : decode cX6_mend 31 = .ok (.aload_n 0, 1) := by decide +kernel
theorem dX6_mend_32 : decode cX6_mend 32 = .ok (.iload 4, 2) := by decide +kernel
theorem dX6_mend_34 : decode cX6_mend 34 = .ok (.invokevirtual 255, 3) := by decide +kernel
theorem dX6_mend_37 : decode cX6_mend 37 = .ok (.ifCond .eq 77, 3) := by decide +kernel
theorem dX6_mend_40 : decode cX6_mend 40 = .ok (.iconst 0, 1) := by decide +kernel
theorem dX6_mend_41 : decode cX6_mend 41 = .ok (.istore 5, 2) := by decide +kernel
theorem dX6_mend_43 : decode cX6_mend 43 = .ok (.iconst 0, 1) := by decide +kernel
theorem dX6_mend_44 : decode cX6_mend 44 = .ok (.istore 6, 2) := by decide +kernel
theorem dX6_mend_46 : decode cX6_mend 46 = .ok (.iload 6, 2) := by decide +kernel
theorem dX6_mend_48 : decode cX6_mend 48 = .ok (.aload_n 0, 1) := by decide +kernel
theorem dX6_mend_49 : decode cX6_mend 49 = .ok (.getfield 13, 3) := by decide +kernel
theorem dX6_mend_52 : decode cX6_mend 52 = .ok (.if_icmp .ge 36, 3) := by decide +kernel
theorem dX6_mend_55 : decode cX6_mend 55 = .ok (.iload 5, 2) := by decide +kernel
theorem dX6_mend_57 : decode cX6_mend 57 = .ok (.aload_n 0, 1) := by decide +kernel
theorem dX6_mend_58 : decode cX6_mend 58 = .ok (.iconst 0, 1) := by decide +kernel
theorem dX6_mend_59 : decode cX6_mend 59 = .ok (.iload 6, 2) := by decide +kernel
theorem dX6_mend_61 : decode cX6_mend 61 = .ok (.invokevirtual 194, 3) := by decide +kernel
theorem dX6_mend_64 : decode cX6_mend 64 = .ok (.aload_n 0, 1) := by decide +kernel
theorem dX6_mend_65 : decode cX6_mend 65 = .ok (.getfield 44, 3) := by decide +kernel
theorem dX6_mend_68 : decode cX6_mend 68 = .ok (.iload 6, 2) := by decide +kernel
theorem dX6_mend_70 : decode cX6_mend 70 = .ok (.iaload, 1) := by decide +kernel
theorem dX6_mend_71 : decode cX6_mend 71 = .ok (.if_icmp .eq 7, 3) := by decide +kernel
theorem dX6_mend_74 : decode cX6_mend 74 = .ok (.iconst 1, 1) := by decide +kernel
theorem dX6_mend_75 : decode cX6_mend 75 = .ok (.goto 4, 3) := by decide +kernel
theorem dX6_mend_78 : decode cX6_mend 78 = .ok (.iconst 0, 1) := by decide +kernel
theorem dX6_mend_79 : decode cX6_mend 79 = .ok (.iadd, 1) := by decide +kernel
theorem dX6_mend_80 : decode cX6_mend 80 = .ok (.istore 5, 2) := by decide +kernel
theorem dX6_mend_82 : decode cX6_mend 82 = .ok (.iinc 6 1, 3) := by decide +kernel
theorem dX6_mend_85 : decode cX6_mend 85 = .ok (.goto (-39), 3) := by decide +kernel
theorem dX6_mend_88 : decode cX6_mend 88 = .ok (.iload 5, 2) := by decide +kernel
theorem dX6_mend_90 : decode cX6_mend 90 = .ok (.iload_n 2, 1) := by decide +kernel
theorem dX6_mend_91 : decode cX6_mend 91 = .ok (.if_icmp .ge 8, 3) := by decide +kernel
theorem dX6_mend_94 : decode cX6_mend 94 = .ok (.iload 4, 2) := by decide +kernel
theorem dX6_mend_96 : decode cX6_mend 96 = .ok (.goto 4, 3) := by decide +kernel
theorem dX6_mend_99 : decode cX6_mend 99 = .ok (.iload_n 3, 1) := by decide +kernel
theorem dX6_mend_100 : decode cX6_mend 100 = .ok (.istore_n 3, 1) := by decide +kernel
theorem dX6_mend_101 : decode cX6_mend 101 = .ok (.iload 5, 2) := by decide +kernel
theorem dX6_mend_103 : decode cX6_mend 103 = .ok (.iload_n 2, 1) := by decide +kernel
theorem dX6_mend_104 : decode cX6_mend 104 = .ok (.if_icmp .ge 8, 3) := by decide +kernel
theorem dX6_mend_107 : decode cX6_mend 107 = .ok (.iload 5, 2) := by decide +kernel
theorem dX6_mend_109 : decode cX6_mend 109 = .ok (.goto 4, 3) := by decide +kernel
theorem dX6_mend_112 : decode cX6_mend 112 = .ok (.iload_n 2, 1) := by decide +kernel
theorem dX6_mend_113 : decode cX6_mend 113 = .ok (.istore_n 2, 1) := by decide +kernel
theorem dX6_mend_114 : decode cX6_mend 114 = .ok (.iinc 4 1, 3) := by decide +kernel
theorem dX6_mend_117 : decode cX6_mend 117 = .ok (.goto (-95), 3) := by decide +kernel
theorem dX6_mend_120 : decode cX6_mend 120 = .ok (.iload_n 3, 1) := by decide +kernel
theorem dX6_mend_121 : decode cX6_mend 121 = .ok (.bipush (-4), 2) := by decide +kernel
theorem dX6_mend_123 : decode cX6_mend 123 = .ok (.if_icmp .eq 8, 3) := by decide +kernel
theorem dX6_mend_126 : decode cX6_mend 126 = .ok (.iload_n 1, 1) := by decide +kernel
theorem dX6_mend_127 : decode cX6_mend 127 = .ok (.iconst 1, 1) := by decide +kernel
theorem dX6_mend_128 : decode cX6_mend 128 = .ok (.if_icmp .ne 7, 3) := by decide +kernel
theorem dX6_mend_131 : decode cX6_mend 131 = .ok (.iload_n 3, 1) := by decide +kernel
theorem dX6_mend_132 : decode cX6_mend 132 = .ok (.goto 4, 3) := by decide +kernel
theorem dX6_mend_135 : decode cX6_mend 135 = .ok (.iload_n 2, 1) := by decide +kernel
theorem dX6_mend_136 : decode cX6_mend 136 = .ok (.ireturn, 1) := by decide +kernel
theorem dX6_isWithin_0 : decode cX6_isWithin 0 = .ok (.iconst 1, 1) := by decide +kernel
theorem dX6_isWithin_1 : decode cX6_isWithin 1 = .ok (.istore_n 2, 1) := by decide +kernel
theorem dX6_isWithin_2 : decode cX6_isWithin 2 = .ok (.iconst 0, 1) := by decide +kernel
theorem dX6_isWithin_3 : decode cX6_isWithin 3 = .ok (.istore_n 3, 1) := by decide +kernel
theorem dX6_isWithin_4 : decode cX6_isWithin 4 = .ok (.iload_n 3, 1) := by decide +kernel
theorem dX6_isWithin_5 : decode cX6_isWithin 5 = .ok (.aload_n 0, 1) := by decide +kernel
theorem dX6_isWithin_6 : decode cX6_isWithin 6 = .ok (.getfield 182, 3) := by decide +kernel
theorem dX6_isWithin_9 : decode cX6_isWithin 9 = .ok (.if_icmp .ge 67, 3) := by decide +kernel
theorem dX6_isWithin_12 : decode cX6_isWithin 12 = .ok (.iconst 0, 1) := by decide +kernel
theorem dX6_isWithin_13 : decode cX6_isWithin 13 = .ok (.istore 4, 2) := by decide +kernel
theorem dX6_isWithin_15 : decode cX6_isWithin 15 = .ok (.iconst 0, 1) := by decide +kernel
theorem dX6_isWithin_16 : decode cX6_isWithin 16 = .ok (.istore 5, 2) := by decide +kernel
theorem dX6_isWithin_18 : decode cX6_isWithin 18 = .ok (.iload 5, 2) := by decide +kernel
theorem dX6_isWithin_20 : decode cX6_isWithin 20 = .ok (.aload_n 0, 1) := by decide +kernel
theorem dX6_isWithin_21 : decode cX6_isWithin 21 = .ok (.getfield 13, 3) := by decide +kernel
theorem dX6_isWithin_24 : decode cX6_isWithin 24 = .ok (.if_icmp .ge 30, 3) := by decide +kernel
theorem dX6_isWithin_27 : decode cX6_isWithin 27 = .ok (.iload 4, 2) := by decide +kernel
theorem dX6_isWithin_29 : decode cX6_isWithin 29 = .ok (.aload_n 0, 1) := by decide +kernel
theorem dX6_isWithin_30 : decode cX6_isWithin 30 = .ok (.getfield 44, 3) := by decide +kernel
theorem dX6_isWithin_33 : decode cX6_isWithin 33 = .ok (.iload 5, 2) := by decide +kernel
theorem dX6_isWithin_35 : decode cX6_isWithin 35 = .ok (.iaload, 1) := by decide +kernel
theorem dX6_isWithin_36 : decode cX6_isWithin 36 = .ok (.iload_n 3, 1) := by decide +kernel
theorem dX6_isWithin_37 : decode cX6_isWithin 37 = .ok (.if_icmp .ne 7, 3) := by decide +kernel
theorem dX6_isWithin_40 : decode cX6_isWithin 40 = .ok (.iconst 1, 1) := by decide +kernel
theorem dX6_isWithin_41 : decode cX6_isWithin 41 = .ok (.goto 4, 3) := by decide +kernel
theorem dX6_isWithin_44 : decode cX6_isWithin 44 = .ok (.iconst 0, 1) := by decide +kernel
theorem dX6_isWithin_45 : decode cX6_isWithin 45 = .ok (.iadd, 1) := by decide +kernel
theorem dX6_isWithin_46 : decode cX6_isWithin 46 = .ok (.istore 4, 2) := by decide +kernel
theorem dX6_isWithin_48 : decode cX6_isWithin 48 = .ok (.iinc 5 1, 3) := by decide +kernel
theorem dX6_isWithin_51 : decode cX6_isWithin 51 = .ok (.goto (-33), 3) := by decide +kernel
theorem dX6_isWithin_54 : decode cX6_isWithin 54 = .ok (.iload_n 2, 1) := by decide +kernel
theorem dX6_isWithin_55 : decode cX6_isWithin 55 = .ok (.ifCond .eq 13, 3) := by decide +kernel
theorem dX6_isWithin_58 : decode cX6_isWithin 58 = .ok (.iload 4, 2) := by decide +kernel
theorem dX6_isWithin_60 : decode cX6_isWithin 60 = .ok (.iload_n 1, 1) := by decide +kernel
theorem dX6_isWithin_61 : decode cX6_isWithin 61 = .ok (.if_icmp .gt 7, 3) := by decide +kernel
theorem dX6_isWithin_64 : decode cX6_isWithin 64 = .ok (.iconst 1, 1) := by decide +kernel
theorem dX6_isWithin_65 : decode cX6_isWithin 65 = .ok (.goto 4, 3) := by decide +kernel
theorem dX6_isWithin_68 : decode cX6_isWithin 68 = .ok (.iconst 0, 1) := by decide +kernel
theorem dX6_isWithin_69 : decode cX6_isWithin 69 = .ok (.istore_n 2, 1) := by decide +kernel
theorem dX6_isWithin_70 : decode cX6_isWithin 70 = .ok (.iinc 3 1, 3) := by decide +kernel
theorem dX6_isWithin_73 : decode cX6_isWithin 73 = .ok (.goto (-69), 3) := by decide +kernel
theorem dX6_isWithin_76 : decode cX6_isWithin 76 = .ok (.iload_n 2, 1) := by decide +kernel
theorem dX6_isWithin_77 : decode cX6_isWithin 77 = .ok (.ireturn, 1) := by decide +kernel
theorem dX6_cheap_0 : decode cX6_cheap 0 = .ok (.iload_n 1, 1) := by decide +kernel
theorem dX6_cheap_1 : decode cX6_cheap 1 = .ok (.i2l, 1) := by decide +kernel
theorem dX6_cheap_2 : decode cX6_cheap 2 = .ok (.lconst 1, 1) := by decide +kernel
theorem dX6_cheap_3 : decode cX6_cheap 3 = .ok (.ldc2_w 259, 3) := by decide +kernel
theorem dX6_cheap_6 : decode cX6_cheap 6 = .ok (.invokestatic 68, 3) := by decide +kernel
theorem dX6_cheap_9 : decode cX6_cheap 9 = .ok (.ifCond .eq 13, 3) := by decide +kernel
theorem dX6_cheap_12 : decode cX6_cheap 12 = .ok (.iload_n 2, 1) := by decide +kernel
theorem dX6_cheap_13 : decode cX6_cheap 13 = .ok (.i2l, 1) := by decide +kernel
theorem dX6_cheap_14 : decode cX6_cheap 14 = .ok (.lconst 0, 1) := by decide +kernel
theorem dX6_cheap_15 : decode cX6_cheap 15 = .ok (.lconst 1, 1) := by decide +kernel
theorem dX6_cheap_16 : decode cX6_cheap 16 = .ok (.invokestatic 68, 3) := by decide +kernel
theorem dX6_cheap_19 : decode cX6_cheap 19 = .ok (.ifCond .ne 5, 3) := by decide +kernel
theorem dX6_cheap_22 : decode cX6_cheap 22 = .ok (.iconst (-1), 1) := by decide +kernel
theorem dX6_cheap_23 : decode cX6_cheap 23 = .ok (.ireturn, 1) := by decide +kernel
theorem dX6_cheap_24 : decode cX6_cheap 24 = .ok (.ldc_w 258, 3) := by decide +kernel
theorem dX6_cheap_27 : decode cX6_cheap 27 = .ok (.istore_n 3, 1) := by decide +kernel
theorem dX6_cheap_28 : decode cX6_cheap 28 = .ok (.bipush (-4), 2) := by decide +kernel
theorem dX6_cheap_30 : decode cX6_cheap 30 = .ok (.istore 4, 2) := by decide +kernel
theorem dX6_cheap_32 : decode cX6_cheap 32 = .ok (.iconst 0, 1) := by decide +kernel
theorem dX6_cheap_33 : decode cX6_cheap 33 = .ok (.istore 5, 2) := by decide +kernel
theorem dX6_cheap_35 : decode cX6_cheap 35 = .ok (.iload 5, 2) := by decide +kernel
theorem dX6_cheap_37 : decode cX6_cheap 37 = .ok (.aload_n 0, 1) := by decide +kernel
theorem dX6_cheap_38 : decode cX6_cheap 38 = .ok (.invokevirtual 252, 3) := by decide +kernel
theorem dX6_cheap_41 : decode cX6_cheap 41 = .ok (.if_icmp .ge 102, 3) := by decide +kernel
theorem dX6_cheap_44 : decode cX6_cheap 44 = .ok (.aload_n 0, 1) := by decide +kernel
theorem dX6_cheap_45 : decode cX6_cheap 45 = .ok (.iload 5, 2) := by decide +kernel
theorem dX6_cheap_47 : decode cX6_cheap 47 = .ok (.invokevirtual 255, 3) := by decide +kernel
theorem dX6_cheap_50 : decode cX6_cheap 50 = .ok (.ifCond .eq 87, 3) := by decide +kernel
theorem dX6_cheap_53 : decode cX6_cheap 53 = .ok (.aload_n 0, 1) := by decide +kernel
theorem dX6_cheap_54 : decode cX6_cheap 54 = .ok (.iload_n 1, 1) := by decide +kernel
theorem dX6_cheap_55 : decode cX6_cheap 55 = .ok (.invokevirtual 261, 3) := by decide +kernel
theorem dX6_cheap_58 : decode cX6_cheap 58 = .ok (.ifCond .eq 79, 3) := by decide +kernel
theorem dX6_cheap_61 : decode cX6_cheap 61 = .ok (.iconst 0, 1) := by decide +kernel
theorem dX6_cheap_62 : decode cX6_cheap 62 = .ok (.istore 6, 2) := by decide +kernel
theorem dX6_cheap_64 : decode cX6_cheap 64 = .ok (.iconst 0, 1) := by decide +kernel
theorem dX6_cheap_65 : decode cX6_cheap 65 = .ok (.istore 7, 2) := by decide +kernel
theorem dX6_cheap_67 : decode cX6_cheap 67 = .ok (.iload 7, 2) := by decide +kernel
theorem dX6_cheap_69 : decode cX6_cheap 69 = .ok (.aload_n 0, 1) := by decide +kernel
theorem dX6_cheap_70 : decode cX6_cheap 70 = .ok (.getfield 13, 3) := by decide +kernel
theorem dX6_cheap_73 : decode cX6_cheap 73 = .ok (.if_icmp .ge 36, 3) := by decide +kernel
theorem dX6_cheap_76 : decode cX6_cheap 76 = .ok (.iload 6, 2) := by decide +kernel
theorem dX6_cheap_78 : decode cX6_cheap 78 = .ok (.aload_n 0, 1) := by decide +kernel
theorem dX6_cheap_79 : decode cX6_cheap 79 = .ok (.getfield 7, 3) := by decide +kernel
theorem dX6_cheap_82 : decode cX6_cheap 82 = .ok (.bipush 46, 2) := by decide +kernel
theorem dX6_cheap_84 : decode cX6_cheap 84 = .ok (.aload_n 0, 1) := by decide +kernel
theorem dX6_cheap_85 : decode cX6_cheap 85 = .ok (.getfield 44, 3) := by decide +kernel
theorem dX6_cheap_88 : decode cX6_cheap 88 = .ok (.iload 7, 2) := by decide +kernel
theorem dX6_cheap_90 : decode cX6_cheap 90 = .ok (.iaload, 1) := by decide +kernel
theorem dX6_cheap_91 : decode cX6_cheap 91 = .ok (.iadd, 1) := by decide +kernel
theorem dX6_cheap_92 : decode cX6_cheap 92 = .ok (.iaload, 1) := by decide +kernel
theorem dX6_cheap_93 : decode cX6_cheap 93 = .ok (.aload_n 0, 1) := by decide +kernel
theorem dX6_cheap_94 : decode cX6_cheap 94 = .ok (.iload 7, 2) := by decide +kernel
theorem dX6_cheap_96 : decode cX6_cheap 96 = .ok (.invokevirtual 202, 3) := by decide +kernel
theorem dX6_cheap_99 : decode cX6_cheap 99 = .ok (.imul, 1) := by decide +kernel
theorem dX6_cheap_100 : decode cX6_cheap 100 = .ok (.iadd, 1) := by decide +kernel
theorem dX6_cheap_101 : decode cX6_cheap 101 = .ok (.istore 6, 2) := by decide +kernel
theorem dX6_cheap_103 : decode cX6_cheap 103 = .ok (.iinc 7 1, 3) := by decide +kernel
theorem dX6_cheap_106 : decode cX6_cheap 106 = .ok (.goto (-39), 3) := by decide +kernel
theorem dX6_cheap_109 : decode cX6_cheap 109 = .ok (.iload 6, 2) := by decide +kernel
theorem dX6_cheap_111 : decode cX6_cheap 111 = .ok (.iload_n 3, 1) := by decide +kernel
theorem dX6_cheap_112 : decode cX6_cheap 112 = .ok (.if_icmp .ge 8, 3) := by decide +kernel
theorem dX6_cheap_115 : decode cX6_cheap 115 = .ok (.iload 5, 2) := by decide +kernel
theorem dX6_cheap_117 : decode cX6_cheap 117 = .ok (.goto 5, 3) := by decide +kernel
theorem dX6_cheap_120 : decode cX6_cheap 120 = .ok (.iload 4, 2) := by decide +kernel
theorem dX6_cheap_122 : decode cX6_cheap 122 = .ok (.istore 4, 2) := by decide +kernel
theorem dX6_cheap_124 : decode cX6_cheap 124 = .ok (.iload 6, 2) := by decide +kernel
theorem dX6_cheap_126 : decode cX6_cheap 126 = .ok (.iload_n 3, 1) := by decide +kernel
theorem dX6_cheap_127 : decode cX6_cheap 127 = .ok (.if_icmp .ge 8, 3) := by decide +kernel
theorem dX6_cheap_130 : decode cX6_cheap 130 = .ok (.iload 6, 2) := by decide +kernel
theorem dX6_cheap_132 : decode cX6_cheap 132 = .ok (.goto 4, 3) := by decide +kernel
theorem dX6_cheap_135 : decode cX6_cheap 135 = .ok (.iload_n 3, 1) := by decide +kernel
theorem dX6_cheap_136 : decode cX6_cheap 136 = .ok (.istore_n 3, 1) := by decide +kernel
theorem dX6_cheap_137 : decode cX6_cheap 137 = .ok (.iinc 5 1, 3) := by decide +kernel
theorem dX6_cheap_140 : decode cX6_cheap 140 = .ok (.goto (-105), 3) := by decide +kernel
theorem dX6_cheap_143 : decode cX6_cheap 143 = .ok (.iload 4, 2) := by decide +kernel
theorem dX6_cheap_145 : decode cX6_cheap 145 = .ok (.bipush (-4), 2) := by decide +kernel
theorem dX6_cheap_147 : decode cX6_cheap 147 = .ok (.if_icmp .eq 8, 3) := by decide +kernel
theorem dX6_cheap_150 : decode cX6_cheap 150 = .ok (.iload_n 2, 1) := by decide +kernel
theorem dX6_cheap_151 : decode cX6_cheap 151 = .ok (.iconst 1, 1) := by decide +kernel
theorem dX6_cheap_152 : decode cX6_cheap 152 = .ok (.if_icmp .ne 8, 3) := by decide +kernel
theorem dX6_cheap_155 : decode cX6_cheap 155 = .ok (.iload 4, 2) := by decide +kernel
theorem dX6_cheap_157 : decode cX6_cheap 157 = .ok (.goto 4, 3) := by decide +kernel
theorem dX6_cheap_160 : decode cX6_cheap 160 = .ok (.iload_n 3, 1) := by decide +kernel
theorem dX6_cheap_161 : decode cX6_cheap 161 = .ok (.ireturn, 1) := by decide +kernel
theorem dX6_next_0 : decode cX6_next 0 = .ok (.iload_n 1, 1) := by decide +kernel
theorem dX6_next_1 : decode cX6_next 1 = .ok (.i2l, 1) := by decide +kernel
theorem dX6_next_2 : decode cX6_next 2 = .ok (.lconst 0, 1) := by decide +kernel
theorem dX6_next_3 : decode cX6_next 3 = .ok (.lconst 1, 1) := by decide +kernel
theorem dX6_next_4 : decode cX6_next 4 = .ok (.invokestatic 68, 3) := by decide +kernel
theorem dX6_next_7 : decode cX6_next 7 = .ok (.ifCond .ne 5, 3) := by decide +kernel
theorem dX6_next_10 : decode cX6_next 10 = .ok (.iconst (-1), 1) := by decide +kernel
theorem dX6_next_11 : decode cX6_next 11 = .ok (.ireturn, 1) := by decide +kernel
theorem dX6_next_12 : decode cX6_next 12 = .ok (.iconst (-1), 1) := by decide +kernel
theorem dX6_next_13 : decode cX6_next 13 = .ok (.istore_n 2, 1) := by decide +kernel
theorem dX6_next_14 : decode cX6_next 14 = .ok (.bipush (-4), 2) := by decide +kernel
theorem dX6_next_16 : decode cX6_next 16 = .ok (.istore_n 3, 1) := by decide +kernel
theorem dX6_next_17 : decode cX6_next 17 = .ok (.iconst 0, 1) := by decide +kernel
theorem dX6_next_18 : decode cX6_next 18 = .ok (.istore 4, 2) := by decide +kernel
theorem dX6_next_20 : decode cX6_next 20 = .ok (.iload 4, 2) := by decide +kernel
theorem dX6_next_22 : decode cX6_next 22 = .ok (.aload_n 0, 1) := by decide +kernel
theorem dX6_next_23 : decode cX6_next 23 = .ok (.getfield 13, 3) := by decide +kernel
theorem dX6_next_26 : decode cX6_next 26 = .ok (.if_icmp .ge 87, 3) := by decide +kernel
theorem dX6_next_29 : decode cX6_next 29 = .ok (.iconst 0, 1) := by decide +kernel
theorem dX6_next_30 : decode cX6_next 30 = .ok (.istore 5, 2) := by decide +kernel
theorem dX6_next_32 : decode cX6_next 32 = .ok (.iload 5, 2) := by decide +kernel
theorem dX6_next_34 : decode cX6_next 34 = .ok (.aload_n 0, 1) := by decide +kernel
theorem dX6_next_35 : decode cX6_next 35 = .ok (.getfield 182, 3) := by decide +kernel
theorem dX6_next_38 : decode cX6_next 38 = .ok (.if_icmp .ge 69, 3) := by decide +kernel
theorem dX6_next_41 : decode cX6_next 41 = .ok (.aload_n 0, 1) := by decide +kernel
theorem dX6_next_42 : decode cX6_next 42 = .ok (.iconst 0, 1) := by decide +kernel
theorem dX6_next_43 : decode cX6_next 43 = .ok (.sipush 252, 3) := by decide +kernel
theorem dX6_next_46 : decode cX6_next 46 = .ok (.invokevirtual 248, 3) := by decide +kernel
theorem dX6_next_49 : decode cX6_next 49 = .ok (.aload_n 0, 1) := by decide +kernel
theorem dX6_next_50 : decode cX6_next 50 = .ok (.sipush 252, 3) := by decide +kernel
theorem dX6_next_53 : decode cX6_next 53 = .ok (.iload 4, 2) := by decide +kernel
theorem dX6_next_55 : decode cX6_next 55 = .ok (.iload 5, 2) := by decide +kernel
theorem dX6_next_57 : decode cX6_next 57 = .ok (.invokevirtual 225, 3) := by decide +kernel
theorem dX6_next_60 : decode cX6_next 60 = .ok (.aload_n 0, 1) := by decide +kernel
theorem dX6_next_61 : decode cX6_next 61 = .ok (.sipush 252, 3) := by decide +kernel
theorem dX6_next_64 : decode cX6_next 64 = .ok (.invokevirtual 264, 3) := by decide +kernel
theorem dX6_next_67 : decode cX6_next 67 = .ok (.istore 6, 2) := by decide +kernel
theorem dX6_next_69 : decode cX6_next 69 = .ok (.iload 6, 2) := by decide +kernel
theorem dX6_next_71 : decode cX6_next 71 = .ok (.iload_n 2, 1) := by decide +kernel
theorem dX6_next_72 : decode cX6_next 72 = .ok (.if_icmp .le 14, 3) := by decide +kernel
theorem dX6_next_75 : decode cX6_next 75 = .ok (.bipush 10, 2) := by decide +kernel
theorem dX6_next_77 : decode cX6_next 77 = .ok (.iload 4, 2) := by decide +kernel
theorem dX6_next_79 : decode cX6_next 79 = .ok (.imul, 1) := by decide +kernel
theorem dX6_next_80 : decode cX6_next 80 = .ok (.iload 5, 2) := by decide +kernel
theorem dX6_next_82 : decode cX6_next 82 = .ok (.iadd, 1) := by decide +kernel
theorem dX6_next_83 : decode cX6_next 83 = .ok (.goto 4, 3) := by decide +kernel
theorem dX6_next_86 : decode cX6_next 86 = .ok (.iload_n 3, 1) := by decide +kernel
theorem dX6_next_87 : decode cX6_next 87 = .ok (.istore_n 3, 1) := by decide +kernel
theorem dX6_next_88 : decode cX6_next 88 = .ok (.iload 6, 2) := by decide +kernel
theorem dX6_next_90 : decode cX6_next 90 = .ok (.iload_n 2, 1) := by decide +kernel
theorem dX6_next_91 : decode cX6_next 91 = .ok (.if_icmp .le 8, 3) := by decide +kernel
theorem dX6_next_94 : decode cX6_next 94 = .ok (.iload 6, 2) := by decide +kernel
theorem dX6_next_96 : decode cX6_next 96 = .ok (.goto 4, 3) := by decide +kernel
theorem dX6_next_99 : decode cX6_next 99 = .ok (.iload_n 2, 1) := by decide +kernel
theorem dX6_next_100 : decode cX6_next 100 = .ok (.istore_n 2, 1) := by decide +kernel
theorem dX6_next_101 : decode cX6_next 101 = .ok (.iinc 5 1, 3) := by decide +kernel
theorem dX6_next_104 : decode cX6_next 104 = .ok (.goto (-72), 3) := by decide +kernel
theorem dX6_next_107 : decode cX6_next 107 = .ok (.iinc 4 1, 3) := by decide +kernel
theorem dX6_next_110 : decode cX6_next 110 = .ok (.goto (-90), 3) := by decide +kernel
theorem dX6_next_113 : decode cX6_next 113 = .ok (.iload_n 3, 1) := by decide +kernel
theorem dX6_next_114 : decode cX6_next 114 = .ok (.bipush (-4), 2) := by decide +kernel
theorem dX6_next_116 : decode cX6_next 116 = .ok (.if_icmp .eq 7, 3) := by decide +kernel
theorem dX6_next_119 : decode cX6_next 119 = .ok (.iload_n 1, 1) := by decide +kernel
theorem dX6_next_120 : decode cX6_next 120 = .ok (.ifCond .ne 7, 3) := by decide +kernel
theorem dX6_next_123 : decode cX6_next 123 = .ok (.iload_n 3, 1) := by decide +kernel
theorem dX6_next_124 : decode cX6_next 124 = .ok (.goto 4, 3) := by decide +kernel
theorem dX6_next_127 : decode cX6_next 127 = .ok (.iload_n 2, 1) := by decide +kernel
theorem dX6_next_128 : decode cX6_next 128 = .ok (.ireturn, 1) := by decide +kernel
theorem dX6_lowest_0 : decode cX6_lowest 0 = .ok (.lload_n 0, 1) := by decide +kernel
theorem dX6_lowest_1 : decode cX6_lowest 1 = .ok (.lconst 0, 1) := by decide +kernel
theorem dX6_lowest_2 : decode cX6_lowest 2 = .ok (.lcmp, 1) := by decide +kernel
theorem dX6_lowest_3 : decode cX6_lowest 3 = .ok (.ifCond .ge 8, 3) := by decide +kernel
theorem dX6_lowest_6 : decode cX6_lowest 6 = .ok (.lload_n 0, 1) := by decide +kernel
theorem dX6_lowest_7 : decode cX6_lowest 7 = .ok (.lneg, 1) := by decide +kernel
theorem dX6_lowest_8 : decode cX6_lowest 8 = .ok (.goto 4, 3) := by decide +kernel
theorem dX6_lowest_11 : decode cX6_lowest 11 = .ok (.lload_n 0, 1) := by decide +kernel
theorem dX6_lowest_12 : decode cX6_lowest 12 = .ok (.lstore 5, 2) := by decide +kernel
theorem dX6_lowest_14 : decode cX6_lowest 14 = .ok (.lload_n 2, 1) := by decide +kernel
theorem dX6_lowest_15 : decode cX6_lowest 15 = .ok (.lstore 7, 2) := by decide +kernel
theorem dX6_lowest_17 : decode cX6_lowest 17 = .ok (.lload 7, 2) := by decide +kernel
theorem dX6_lowest_19 : decode cX6_lowest 19 = .ok (.lconst 0, 1) := by decide +kernel
theorem dX6_lowest_20 : decode cX6_lowest 20 = .ok (.lcmp, 1) := by decide +kernel
theorem dX6_lowest_21 : decode cX6_lowest 21 = .ok (.ifCond .eq 21, 3) := by decide +kernel
theorem dX6_lowest_24 : decode cX6_lowest 24 = .ok (.lload 5, 2) := by decide +kernel
theorem dX6_lowest_26 : decode cX6_lowest 26 = .ok (.lload 7, 2) := by decide +kernel
theorem dX6_lowest_28 : decode cX6_lowest 28 = .ok (.lrem, 1) := by decide +kernel
theorem dX6_lowest_29 : decode cX6_lowest 29 = .ok (.lstore 9, 2) := by decide +kernel
theorem dX6_lowest_31 : decode cX6_lowest 31 = .ok (.lload 7, 2) := by decide +kernel
theorem dX6_lowest_33 : decode cX6_lowest 33 = .ok (.lstore 5, 2) := by decide +kernel
theorem dX6_lowest_35 : decode cX6_lowest 35 = .ok (.lload 9, 2) := by decide +kernel
theorem dX6_lowest_37 : decode cX6_lowest 37 = .ok (.lstore 7, 2) := by decide +kernel
theorem dX6_lowest_39 : decode cX6_lowest 39 = .ok (.goto (-22), 3) := by decide +kernel
theorem dX6_lowest_42 : decode cX6_lowest 42 = .ok (.iload 4, 2) := by decide +kernel
theorem dX6_lowest_44 : decode cX6_lowest 44 = .ok (.ifCond .ne 7, 3) := by decide +kernel
theorem dX6_lowest_47 : decode cX6_lowest 47 = .ok (.lload_n 0, 1) := by decide +kernel
theorem dX6_lowest_48 : decode cX6_lowest 48 = .ok (.goto 4, 3) := by decide +kernel
theorem dX6_lowest_51 : decode cX6_lowest 51 = .ok (.lload_n 2, 1) := by decide +kernel
theorem dX6_lowest_52 : decode cX6_lowest 52 = .ok (.lload 5, 2) := by decide +kernel
theorem dX6_lowest_54 : decode cX6_lowest 54 = .ok (.ldiv, 1) := by decide +kernel
theorem dX6_lowest_55 : decode cX6_lowest 55 = .ok (.lreturn, 1) := by decide +kernel
theorem dX6_bitsOf_0 : decode cX6_bitsOf 0 = .ok (.iconst 0, 1) := by decide +kernel
theorem dX6_bitsOf_1 : decode cX6_bitsOf 1 = .ok (.istore_n 1, 1) := by decide +kernel
theorem dX6_bitsOf_2 : decode cX6_bitsOf 2 = .ok (.iconst 0, 1) := by decide +kernel
theorem dX6_bitsOf_3 : decode cX6_bitsOf 3 = .ok (.istore_n 2, 1) := by decide +kernel
theorem dX6_bitsOf_4 : decode cX6_bitsOf 4 = .ok (.iload_n 2, 1) := by decide +kernel
theorem dX6_bitsOf_5 : decode cX6_bitsOf 5 = .ok (.bipush 6, 2) := by decide +kernel
theorem dX6_bitsOf_7 : decode cX6_bitsOf 7 = .ok (.if_icmp .ge 17, 3) := by decide +kernel
theorem dX6_bitsOf_10 : decode cX6_bitsOf 10 = .ok (.iload_n 1, 1) := by decide +kernel
theorem dX6_bitsOf_11 : decode cX6_bitsOf 11 = .ok (.iload_n 0, 1) := by decide +kernel
theorem dX6_bitsOf_12 : decode cX6_bitsOf 12 = .ok (.iload_n 2, 1) := by decide +kernel
theorem dX6_bitsOf_13 : decode cX6_bitsOf 13 = .ok (.ishr, 1) := by decide +kernel
theorem dX6_bitsOf_14 : decode cX6_bitsOf 14 = .ok (.iconst 1, 1) := by decide +kernel
theorem dX6_bitsOf_15 : decode cX6_bitsOf 15 = .ok (.iand, 1) := by decide +kernel
theorem dX6_bitsOf_16 : decode cX6_bitsOf 16 = .ok (.iadd, 1) := by decide +kernel
theorem dX6_bitsOf_17 : decode cX6_bitsOf 17 = .ok (.istore_n 1, 1) := by decide +kernel
theorem dX6_bitsOf_18 : decode cX6_bitsOf 18 = .ok (.iinc 2 1, 3) := by decide +kernel
theorem dX6_bitsOf_21 : decode cX6_bitsOf 21 = .ok (.goto (-17), 3) := by decide +kernel
theorem dX6_bitsOf_24 : decode cX6_bitsOf 24 = .ok (.iload_n 1, 1) := by decide +kernel
theorem dX6_bitsOf_25 : decode cX6_bitsOf 25 = .ok (.ireturn, 1) := by decide +kernel
theorem dX6_valueOn_0 : decode cX6_valueOn 0 = .ok (.iconst 0, 1) := by decide +kernel
theorem dX6_valueOn_1 : decode cX6_valueOn 1 = .ok (.istore_n 3, 1) := by decide +kernel
theorem dX6_valueOn_2 : decode cX6_valueOn 2 = .ok (.iconst 0, 1) := by decide +kernel
theorem dX6_valueOn_3 : decode cX6_valueOn 3 = .ok (.istore 4, 2) := by decide +kernel
theorem dX6_valueOn_5 : decode cX6_valueOn 5 = .ok (.iload 4, 2) := by decide +kernel
theorem dX6_valueOn_7 : decode cX6_valueOn 7 = .ok (.aload_n 0, 1) := by decide +kernel
theorem dX6_valueOn_8 : decode cX6_valueOn 8 = .ok (.getfield 13, 3) := by decide +kernel
theorem dX6_valueOn_11 : decode cX6_valueOn 11 = .ok (.if_icmp .ge 48, 3) := by decide +kernel
theorem dX6_valueOn_14 : decode cX6_valueOn 14 = .ok (.aload_n 0, 1) := by decide +kernel
theorem dX6_valueOn_15 : decode cX6_valueOn 15 = .ok (.iload_n 1, 1) := by decide +kernel
theorem dX6_valueOn_16 : decode cX6_valueOn 16 = .ok (.iload 4, 2) := by decide +kernel
theorem dX6_valueOn_18 : decode cX6_valueOn 18 = .ok (.invokevirtual 194, 3) := by decide +kernel
theorem dX6_valueOn_21 : decode cX6_valueOn 21 = .ok (.istore 5, 2) := by decide +kernel
theorem dX6_valueOn_23 : decode cX6_valueOn 23 = .ok (.iload_n 3, 1) := by decide +kernel
theorem dX6_valueOn_24 : decode cX6_valueOn 24 = .ok (.iload 5, 2) := by decide +kernel
theorem dX6_valueOn_26 : decode cX6_valueOn 26 = .ok (.bipush (-4), 2) := by decide +kernel
theorem dX6_valueOn_28 : decode cX6_valueOn 28 = .ok (.if_icmp .eq 22, 3) := by decide +kernel
theorem dX6_valueOn_31 : decode cX6_valueOn 31 = .ok (.iload_n 2, 1) := by decide +kernel
theorem dX6_valueOn_32 : decode cX6_valueOn 32 = .ok (.iload 5, 2) := by decide +kernel
theorem dX6_valueOn_34 : decode cX6_valueOn 34 = .ok (.ishr, 1) := by decide +kernel
theorem dX6_valueOn_35 : decode cX6_valueOn 35 = .ok (.iconst 1, 1) := by decide +kernel
theorem dX6_valueOn_36 : decode cX6_valueOn 36 = .ok (.iand, 1) := by decide +kernel
theorem dX6_valueOn_37 : decode cX6_valueOn 37 = .ok (.iconst 1, 1) := by decide +kernel
theorem dX6_valueOn_38 : decode cX6_valueOn 38 = .ok (.if_icmp .ne 12, 3) := by decide +kernel
theorem dX6_valueOn_41 : decode cX6_valueOn 41 = .ok (.aload_n 0, 1) := by decide +kernel
theorem dX6_valueOn_42 : decode cX6_valueOn 42 = .ok (.iload 4, 2) := by decide +kernel
theorem dX6_valueOn_44 : decode cX6_valueOn 44 = .ok (.invokevirtual 202, 3) := by decide +kernel
theorem dX6_valueOn_47 : decode cX6_valueOn 47 = .ok (.goto 4, 3) := by decide +kernel
theorem dX6_valueOn_50 : decode cX6_valueOn 50 = .ok (.iconst 0, 1) := by decide +kernel
theorem dX6_valueOn_51 : decode cX6_valueOn 51 = .ok (.iadd, 1) := by decide +kernel
theorem dX6_valueOn_52 : decode cX6_valueOn 52 = .ok (.istore_n 3, 1) := by decide +kernel
theorem dX6_valueOn_53 : decode cX6_valueOn 53 = .ok (.iinc 4 1, 3) := by decide +kernel
theorem dX6_valueOn_56 : decode cX6_valueOn 56 = .ok (.goto (-51), 3) := by decide +kernel
theorem dX6_valueOn_59 : decode cX6_valueOn 59 = .ok (.iconst 0, 1) := by decide +kernel
theorem dX6_valueOn_60 : decode cX6_valueOn 60 = .ok (.istore 4, 2) := by decide +kernel
theorem dX6_valueOn_62 : decode cX6_valueOn 62 = .ok (.iload 4, 2) := by decide +kernel
theorem dX6_valueOn_64 : decode cX6_valueOn 64 = .ok (.aload_n 0, 1) := by decide +kernel
theorem dX6_valueOn_65 : decode cX6_valueOn 65 = .ok (.getfield 185, 3) := by decide +kernel
theorem dX6_valueOn_68 : decode cX6_valueOn 68 = .ok (.if_icmp .ge 106, 3) := by decide +kernel
theorem dX6_valueOn_71 : decode cX6_valueOn 71 = .ok (.aload_n 0, 1) := by decide +kernel
theorem dX6_valueOn_72 : decode cX6_valueOn 72 = .ok (.getfield 17, 3) := by decide +kernel
theorem dX6_valueOn_75 : decode cX6_valueOn 75 = .ok (.iconst 2, 1) := by decide +kernel
theorem dX6_valueOn_76 : decode cX6_valueOn 76 = .ok (.iload 4, 2) := by decide +kernel
theorem dX6_valueOn_78 : decode cX6_valueOn 78 = .ok (.imul, 1) := by decide +kernel
theorem dX6_valueOn_79 : decode cX6_valueOn 79 = .ok (.iaload, 1) := by decide +kernel
theorem dX6_valueOn_80 : decode cX6_valueOn 80 = .ok (.istore 5, 2) := by decide +kernel
theorem dX6_valueOn_82 : decode cX6_valueOn 82 = .ok (.aload_n 0, 1) := by decide +kernel
theorem dX6_valueOn_83 : decode cX6_valueOn 83 = .ok (.getfield 17, 3) := by decide +kernel
theorem dX6_valueOn_86 : decode cX6_valueOn 86 = .ok (.iconst 2, 1) := by decide +kernel
theorem dX6_valueOn_87 : decode cX6_valueOn 87 = .ok (.iload 4, 2) := by decide +kernel
theorem dX6_valueOn_89 : decode cX6_valueOn 89 = .ok (.imul, 1) := by decide +kernel
theorem dX6_valueOn_90 : decode cX6_valueOn 90 = .ok (.iconst 1, 1) := by decide +kernel
theorem dX6_valueOn_91 : decode cX6_valueOn 91 = .ok (.iadd, 1) := by decide +kernel
theorem dX6_valueOn_92 : decode cX6_valueOn 92 = .ok (.iaload, 1) := by decide +kernel
theorem dX6_valueOn_93 : decode cX6_valueOn 93 = .ok (.istore 6, 2) := by decide +kernel
theorem dX6_valueOn_95 : decode cX6_valueOn 95 = .ok (.aload_n 0, 1) := by decide +kernel
theorem dX6_valueOn_96 : decode cX6_valueOn 96 = .ok (.iload_n 1, 1) := by decide +kernel
theorem dX6_valueOn_97 : decode cX6_valueOn 97 = .ok (.iload 4, 2) := by decide +kernel
theorem dX6_valueOn_99 : decode cX6_valueOn 99 = .ok (.invokevirtual 220, 3) := by decide +kernel
theorem dX6_valueOn_102 : decode cX6_valueOn 102 = .ok (.ifCond .eq 66, 3) := by decide +kernel
theorem dX6_valueOn_105 : decode cX6_valueOn 105 = .ok (.iload_n 2, 1) := by decide +kernel
theorem dX6_valueOn_106 : decode cX6_valueOn 106 = .ok (.aload_n 0, 1) := by decide +kernel
theorem dX6_valueOn_107 : decode cX6_valueOn 107 = .ok (.iload_n 1, 1) := by decide +kernel
theorem dX6_valueOn_108 : decode cX6_valueOn 108 = .ok (.iload 5, 2) := by decide +kernel
theorem dX6_valueOn_110 : decode cX6_valueOn 110 = .ok (.invokevirtual 194, 3) := by decide +kernel
theorem dX6_valueOn_113 : decode cX6_valueOn 113 = .ok (.ishr, 1) := by decide +kernel
theorem dX6_valueOn_114 : decode cX6_valueOn 114 = .ok (.iconst 1, 1) := by decide +kernel
theorem dX6_valueOn_115 : decode cX6_valueOn 115 = .ok (.iand, 1) := by decide +kernel
theorem dX6_valueOn_116 : decode cX6_valueOn 116 = .ok (.iconst 1, 1) := by decide +kernel
theorem dX6_valueOn_117 : decode cX6_valueOn 117 = .ok (.if_icmp .ne 51, 3) := by decide +kernel
theorem dX6_valueOn_120 : decode cX6_valueOn 120 = .ok (.iload_n 2, 1) := by decide +kernel
theorem dX6_valueOn_121 : decode cX6_valueOn 121 = .ok (.aload_n 0, 1) := by decide +kernel
theorem dX6_valueOn_122 : decode cX6_valueOn 122 = .ok (.iload_n 1, 1) := by decide +kernel
theorem dX6_valueOn_123 : decode cX6_valueOn 123 = .ok (.iload 6, 2) := by decide +kernel
theorem dX6_valueOn_125 : decode cX6_valueOn 125 = .ok (.invokevirtual 194, 3) := by decide +kernel
theorem dX6_valueOn_128 : decode cX6_valueOn 128 = .ok (.ishr, 1) := by decide +kernel
theorem dX6_valueOn_129 : decode cX6_valueOn 129 = .ok (.iconst 1, 1) := by decide +kernel
theorem dX6_valueOn_130 : decode cX6_valueOn 130 = .ok (.iand, 1) := by decide +kernel
theorem dX6_valueOn_131 : decode cX6_valueOn 131 = .ok (.iconst 1, 1) := by decide +kernel
theorem dX6_valueOn_132 : decode cX6_valueOn 132 = .ok (.if_icmp .ne 36, 3) := by decide +kernel
theorem dX6_valueOn_135 : decode cX6_valueOn 135 = .ok (.iload_n 3, 1) := by decide +kernel
theorem dX6_valueOn_136 : decode cX6_valueOn 136 = .ok (.aload_n 0, 1) := by decide +kernel
theorem dX6_valueOn_137 : decode cX6_valueOn 137 = .ok (.iload 5, 2) := by decide +kernel
theorem dX6_valueOn_139 : decode cX6_valueOn 139 = .ok (.invokevirtual 202, 3) := by decide +kernel
theorem dX6_valueOn_142 : decode cX6_valueOn 142 = .ok (.aload_n 0, 1) := by decide +kernel
theorem dX6_valueOn_143 : decode cX6_valueOn 143 = .ok (.iload 6, 2) := by decide +kernel
theorem dX6_valueOn_145 : decode cX6_valueOn 145 = .ok (.invokevirtual 202, 3) := by decide +kernel
theorem dX6_valueOn_148 : decode cX6_valueOn 148 = .ok (.if_icmp .ge 12, 3) := by decide +kernel
theorem dX6_valueOn_151 : decode cX6_valueOn 151 = .ok (.aload_n 0, 1) := by decide +kernel
theorem dX6_valueOn_152 : decode cX6_valueOn 152 = .ok (.iload 5, 2) := by decide +kernel
theorem dX6_valueOn_154 : decode cX6_valueOn 154 = .ok (.invokevirtual 202, 3) := by decide +kernel
theorem dX6_valueOn_157 : decode cX6_valueOn 157 = .ok (.goto 9, 3) := by decide +kernel
theorem dX6_valueOn_160 : decode cX6_valueOn 160 = .ok (.aload_n 0, 1) := by decide +kernel
theorem dX6_valueOn_161 : decode cX6_valueOn 161 = .ok (.iload 6, 2) := by decide +kernel
theorem dX6_valueOn_163 : decode cX6_valueOn 163 = .ok (.invokevirtual 202, 3) := by decide +kernel
theorem dX6_valueOn_166 : decode cX6_valueOn 166 = .ok (.iadd, 1) := by decide +kernel
theorem dX6_valueOn_167 : decode cX6_valueOn 167 = .ok (.istore_n 3, 1) := by decide +kernel
theorem dX6_valueOn_168 : decode cX6_valueOn 168 = .ok (.iinc 4 1, 3) := by decide +kernel
theorem dX6_valueOn_171 : decode cX6_valueOn 171 = .ok (.goto (-109), 3) := by decide +kernel
theorem dX6_valueOn_174 : decode cX6_valueOn 174 = .ok (.iload_n 3, 1) := by decide +kernel
theorem dX6_valueOn_175 : decode cX6_valueOn 175 = .ok (.ireturn, 1) := by decide +kernel
theorem dX6_value_0 : decode cX6_value 0 = .ok (.iload_n 1, 1) := by decide +kernel
theorem dX6_value_1 : decode cX6_value 1 = .ok (.i2l, 1) := by decide +kernel
theorem dX6_value_2 : decode cX6_value 2 = .ok (.lconst 0, 1) := by decide +kernel
theorem dX6_value_3 : decode cX6_value 3 = .ok (.iconst 1, 1) := by decide +kernel
theorem dX6_value_4 : decode cX6_value 4 = .ok (.aload_n 0, 1) := by decide +kernel
theorem dX6_value_5 : decode cX6_value 5 = .ok (.getfield 182, 3) := by decide +kernel
theorem dX6_value_8 : decode cX6_value 8 = .ok (.ishl, 1) := by decide +kernel
theorem dX6_value_9 : decode cX6_value 9 = .ok (.iconst 1, 1) := by decide +kernel
theorem dX6_value_10 : decode cX6_value 10 = .ok (.isub, 1) := by decide +kernel
theorem dX6_value_11 : decode cX6_value 11 = .ok (.i2l, 1) := by decide +kernel
theorem dX6_value_12 : decode cX6_value 12 = .ok (.invokestatic 68, 3) := by decide +kernel
theorem dX6_value_15 : decode cX6_value 15 = .ok (.ifCond .eq 12, 3) := by decide +kernel
theorem dX6_value_18 : decode cX6_value 18 = .ok (.aload_n 0, 1) := by decide +kernel
theorem dX6_value_19 : decode cX6_value 19 = .ok (.iconst 0, 1) := by decide +kernel
theorem dX6_value_20 : decode cX6_value 20 = .ok (.iload_n 1, 1) := by decide +kernel
theorem dX6_value_21 : decode cX6_value 21 = .ok (.invokevirtual 267, 3) := by decide +kernel
theorem dX6_value_24 : decode cX6_value 24 = .ok (.goto 4, 3) := by decide +kernel
theorem dX6_value_27 : decode cX6_value 27 = .ok (.iconst (-1), 1) := by decide +kernel
theorem dX6_value_28 : decode cX6_value 28 = .ok (.ireturn, 1) := by decide +kernel
theorem dX6_orders_0 : decode cX6_orders 0 = .ok (.iconst 1, 1) := by decide +kernel
theorem dX6_orders_1 : decode cX6_orders 1 = .ok (.istore_n 1, 1) := by decide +kernel
theorem dX6_orders_2 : decode cX6_orders 2 = .ok (.iconst 2, 1) := by decide +kernel
theorem dX6_orders_3 : decode cX6_orders 3 = .ok (.istore_n 2, 1) := by decide +kernel
theorem dX6_orders_4 : decode cX6_orders 4 = .ok (.iload_n 2, 1) := by decide +kernel
theorem dX6_orders_5 : decode cX6_orders 5 = .ok (.iload_n 0, 1) := by decide +kernel
theorem dX6_orders_6 : decode cX6_orders 6 = .ok (.if_icmp .gt 13, 3) := by decide +kernel
theorem dX6_orders_9 : decode cX6_orders 9 = .ok (.iload_n 1, 1) := by decide +kernel
theorem dX6_orders_10 : decode cX6_orders 10 = .ok (.iload_n 2, 1) := by decide +kernel
theorem dX6_orders_11 : decode cX6_orders 11 = .ok (.imul, 1) := by decide +kernel
theorem dX6_orders_12 : decode cX6_orders 12 = .ok (.istore_n 1, 1) := by decide +kernel
theorem dX6_orders_13 : decode cX6_orders 13 = .ok (.iinc 2 1, 3) := by decide +kernel
theorem dX6_orders_16 : decode cX6_orders 16 = .ok (.goto (-12), 3) := by decide +kernel
theorem dX6_orders_19 : decode cX6_orders 19 = .ok (.iload_n 1, 1) := by decide +kernel
theorem dX6_orders_20 : decode cX6_orders 20 = .ok (.ireturn, 1) := by decide +kernel
theorem dX6_share_0 : decode cX6_share 0 = .ok (.aload_n 0, 1) := by decide +kernel
theorem dX6_share_1 : decode cX6_share 1 = .ok (.iload_n 1, 1) := by decide +kernel
theorem dX6_share_2 : decode cX6_share 2 = .ok (.invokevirtual 205, 3) := by decide +kernel
theorem dX6_share_5 : decode cX6_share 5 = .ok (.ifCond .eq 13, 3) := by decide +kernel
theorem dX6_share_8 : decode cX6_share 8 = .ok (.iload_n 2, 1) := by decide +kernel
theorem dX6_share_9 : decode cX6_share 9 = .ok (.i2l, 1) := by decide +kernel
theorem dX6_share_10 : decode cX6_share 10 = .ok (.lconst 0, 1) := by decide +kernel
theorem dX6_share_11 : decode cX6_share 11 = .ok (.lconst 1, 1) := by decide +kernel
theorem dX6_share_12 : decode cX6_share 12 = .ok (.invokestatic 68, 3) := by decide +kernel
theorem dX6_share_15 : decode cX6_share 15 = .ok (.ifCond .ne 7, 3) := by decide +kernel
theorem dX6_share_18 : decode cX6_share 18 = .ok (.ldc2_w 211, 3) := by decide +kernel
theorem dX6_share_21 : decode cX6_share 21 = .ok (.lreturn, 1) := by decide +kernel
theorem dX6_share_22 : decode cX6_share 22 = .ok (.lconst 0, 1) := by decide +kernel
theorem dX6_share_23 : decode cX6_share 23 = .ok (.lstore_n 3, 1) := by decide +kernel
theorem dX6_share_24 : decode cX6_share 24 = .ok (.iconst 0, 1) := by decide +kernel
theorem dX6_share_25 : decode cX6_share 25 = .ok (.istore 5, 2) := by decide +kernel
theorem dX6_share_27 : decode cX6_share 27 = .ok (.iload 5, 2) := by decide +kernel
theorem dX6_share_29 : decode cX6_share 29 = .ok (.iconst 1, 1) := by decide +kernel
theorem dX6_share_30 : decode cX6_share 30 = .ok (.aload_n 0, 1) := by decide +kernel
theorem dX6_share_31 : decode cX6_share 31 = .ok (.getfield 182, 3) := by decide +kernel
theorem dX6_share_34 : decode cX6_share 34 = .ok (.ishl, 1) := by decide +kernel
theorem dX6_share_35 : decode cX6_share 35 = .ok (.if_icmp .ge 69, 3) := by decide +kernel
theorem dX6_share_38 : decode cX6_share 38 = .ok (.iload 5, 2) := by decide +kernel
theorem dX6_share_40 : decode cX6_share 40 = .ok (.iload_n 1, 1) := by decide +kernel
theorem dX6_share_41 : decode cX6_share 41 = .ok (.ishr, 1) := by decide +kernel
theorem dX6_share_42 : decode cX6_share 42 = .ok (.iconst 1, 1) := by decide +kernel
theorem dX6_share_43 : decode cX6_share 43 = .ok (.iand, 1) := by decide +kernel
theorem dX6_share_44 : decode cX6_share 44 = .ok (.ifCond .ne 54, 3) := by decide +kernel
theorem dX6_share_47 : decode cX6_share 47 = .ok (.iload 5, 2) := by decide +kernel
theorem dX6_share_49 : decode cX6_share 49 = .ok (.invokestatic 270, 3) := by decide +kernel
theorem dX6_share_52 : decode cX6_share 52 = .ok (.istore 6, 2) := by decide +kernel
theorem dX6_share_54 : decode cX6_share 54 = .ok (.lload_n 3, 1) := by decide +kernel
theorem dX6_share_55 : decode cX6_share 55 = .ok (.aload_n 0, 1) := by decide +kernel
theorem dX6_share_56 : decode cX6_share 56 = .ok (.iconst 0, 1) := by decide +kernel
theorem dX6_share_57 : decode cX6_share 57 = .ok (.iload 5, 2) := by decide +kernel
theorem dX6_share_59 : decode cX6_share 59 = .ok (.iconst 1, 1) := by decide +kernel
theorem dX6_share_60 : decode cX6_share 60 = .ok (.iload_n 1, 1) := by decide +kernel
theorem dX6_share_61 : decode cX6_share 61 = .ok (.ishl, 1) := by decide +kernel
theorem dX6_share_62 : decode cX6_share 62 = .ok (.ior, 1) := by decide +kernel
theorem dX6_share_63 : decode cX6_share 63 = .ok (.invokevirtual 267, 3) := by decide +kernel
theorem dX6_share_66 : decode cX6_share 66 = .ok (.aload_n 0, 1) := by decide +kernel
theorem dX6_share_67 : decode cX6_share 67 = .ok (.iconst 0, 1) := by decide +kernel
theorem dX6_share_68 : decode cX6_share 68 = .ok (.iload 5, 2) := by decide +kernel
theorem dX6_share_70 : decode cX6_share 70 = .ok (.invokevirtual 267, 3) := by decide +kernel
theorem dX6_share_73 : decode cX6_share 73 = .ok (.isub, 1) := by decide +kernel
theorem dX6_share_74 : decode cX6_share 74 = .ok (.i2l, 1) := by decide +kernel
theorem dX6_share_75 : decode cX6_share 75 = .ok (.iload 6, 2) := by decide +kernel
theorem dX6_share_77 : decode cX6_share 77 = .ok (.invokestatic 273, 3) := by decide +kernel
theorem dX6_share_80 : decode cX6_share 80 = .ok (.i2l, 1) := by decide +kernel
theorem dX6_share_81 : decode cX6_share 81 = .ok (.lmul, 1) := by decide +kernel
theorem dX6_share_82 : decode cX6_share 82 = .ok (.aload_n 0, 1) := by decide +kernel
theorem dX6_share_83 : decode cX6_share 83 = .ok (.getfield 182, 3) := by decide +kernel
theorem dX6_share_86 : decode cX6_share 86 = .ok (.iload 6, 2) := by decide +kernel
theorem dX6_share_88 : decode cX6_share 88 = .ok (.isub, 1) := by decide +kernel
theorem dX6_share_89 : decode cX6_share 89 = .ok (.iconst 1, 1) := by decide +kernel
theorem dX6_share_90 : decode cX6_share 90 = .ok (.isub, 1) := by decide +kernel
theorem dX6_share_91 : decode cX6_share 91 = .ok (.invokestatic 273, 3) := by decide +kernel
theorem dX6_share_94 : decode cX6_share 94 = .ok (.i2l, 1) := by decide +kernel
theorem dX6_share_95 : decode cX6_share 95 = .ok (.lmul, 1) := by decide +kernel
theorem dX6_share_96 : decode cX6_share 96 = .ok (.ladd, 1) := by decide +kernel
theorem dX6_share_97 : decode cX6_share 97 = .ok (.lstore_n 3, 1) := by decide +kernel
theorem dX6_share_98 : decode cX6_share 98 = .ok (.iinc 5 1, 3) := by decide +kernel
theorem dX6_share_101 : decode cX6_share 101 = .ok (.goto (-74), 3) := by decide +kernel
theorem dX6_share_104 : decode cX6_share 104 = .ok (.lload_n 3, 1) := by decide +kernel
theorem dX6_share_105 : decode cX6_share 105 = .ok (.aload_n 0, 1) := by decide +kernel
theorem dX6_share_106 : decode cX6_share 106 = .ok (.getfield 182, 3) := by decide +kernel
theorem dX6_share_109 : decode cX6_share 109 = .ok (.invokestatic 273, 3) := by decide +kernel
theorem dX6_share_112 : decode cX6_share 112 = .ok (.i2l, 1) := by decide +kernel
theorem dX6_share_113 : decode cX6_share 113 = .ok (.iload_n 2, 1) := by decide +kernel
theorem dX6_share_114 : decode cX6_share 114 = .ok (.invokestatic 276, 3) := by decide +kernel
theorem dX6_share_117 : decode cX6_share 117 = .ok (.lreturn, 1) := by decide +kernel
theorem dX6_looksAll_0 : decode cX6_looksAll 0 = .ok (.iconst 1, 1) := by decide +kernel
theorem dX6_looksAll_1 : decode cX6_looksAll 1 = .ok (.istore_n 2, 1) := by decide +kernel
theorem dX6_looksAll_2 : decode cX6_looksAll 2 = .ok (.iconst 0, 1) := by decide +kernel
theorem dX6_looksAll_3 : decode cX6_looksAll 3 = .ok (.istore_n 3, 1) := by decide +kernel
theorem dX6_looksAll_4 : decode cX6_looksAll 4 = .ok (.iload_n 3, 1) := by decide +kernel
theorem dX6_looksAll_5 : decode cX6_looksAll 5 = .ok (.aload_n 0, 1) := by decide +kernel
theorem dX6_looksAll_6 : decode cX6_looksAll 6 = .ok (.getfield 188, 3) := by decide +kernel
theorem dX6_looksAll_9 : decode cX6_looksAll 9 = .ok (.if_icmp .ge 98, 3) := by decide +kernel
theorem dX6_looksAll_12 : decode cX6_looksAll 12 = .ok (.iconst 0, 1) := by decide +kernel
theorem dX6_looksAll_13 : decode cX6_looksAll 13 = .ok (.istore 4, 2) := by decide +kernel
theorem dX6_looksAll_15 : decode cX6_looksAll 15 = .ok (.iconst 0, 1) := by decide +kernel
theorem dX6_looksAll_16 : decode cX6_looksAll 16 = .ok (.istore 5, 2) := by decide +kernel
theorem dX6_looksAll_18 : decode cX6_looksAll 18 = .ok (.iload 5, 2) := by decide +kernel
theorem dX6_looksAll_20 : decode cX6_looksAll 20 = .ok (.aload_n 0, 1) := by decide +kernel
theorem dX6_looksAll_21 : decode cX6_looksAll 21 = .ok (.getfield 13, 3) := by decide +kernel
theorem dX6_looksAll_24 : decode cX6_looksAll 24 = .ok (.if_icmp .ge 62, 3) := by decide +kernel
theorem dX6_looksAll_27 : decode cX6_looksAll 27 = .ok (.aload_n 0, 1) := by decide +kernel
theorem dX6_looksAll_28 : decode cX6_looksAll 28 = .ok (.iconst 0, 1) := by decide +kernel
theorem dX6_looksAll_29 : decode cX6_looksAll 29 = .ok (.iload 5, 2) := by decide +kernel
theorem dX6_looksAll_31 : decode cX6_looksAll 31 = .ok (.invokevirtual 194, 3) := by decide +kernel
theorem dX6_looksAll_34 : decode cX6_looksAll 34 = .ok (.istore 6, 2) := by decide +kernel
theorem dX6_looksAll_36 : decode cX6_looksAll 36 = .ok (.iload 4, 2) := by decide +kernel
theorem dX6_looksAll_38 : decode cX6_looksAll 38 = .ok (.ifCond .ne 35, 3) := by decide +kernel
theorem dX6_looksAll_41 : decode cX6_looksAll 41 = .ok (.iload_n 1, 1) := by decide +kernel
theorem dX6_looksAll_42 : decode cX6_looksAll 42 = .ok (.iload 5, 2) := by decide +kernel
theorem dX6_looksAll_44 : decode cX6_looksAll 44 = .ok (.ishr, 1) := by decide +kernel
theorem dX6_looksAll_45 : decode cX6_looksAll 45 = .ok (.iconst 1, 1) := by decide +kernel
theorem dX6_looksAll_46 : decode cX6_looksAll 46 = .ok (.iand, 1) := by decide +kernel
theorem dX6_looksAll_47 : decode cX6_looksAll 47 = .ok (.iconst 1, 1) := by decide +kernel
theorem dX6_looksAll_48 : decode cX6_looksAll 48 = .ok (.if_icmp .ne 29, 3) := by decide +kernel
theorem dX6_looksAll_51 : decode cX6_looksAll 51 = .ok (.iload 6, 2) := by decide +kernel
theorem dX6_looksAll_53 : decode cX6_looksAll 53 = .ok (.bipush (-4), 2) := by decide +kernel
theorem dX6_looksAll_55 : decode cX6_looksAll 55 = .ok (.if_icmp .eq 22, 3) := by decide +kernel
theorem dX6_looksAll_58 : decode cX6_looksAll 58 = .ok (.aload_n 0, 1) := by decide +kernel
theorem dX6_looksAll_59 : decode cX6_looksAll 59 = .ok (.getfield 20, 3) := by decide +kernel
theorem dX6_looksAll_62 : decode cX6_looksAll 62 = .ok (.iload_n 3, 1) := by decide +kernel
theorem dX6_looksAll_63 : decode cX6_looksAll 63 = .ok (.iaload, 1) := by decide +kernel
theorem dX6_looksAll_64 : decode cX6_looksAll 64 = .ok (.iload 6, 2) := by decide +kernel
theorem dX6_looksAll_66 : decode cX6_looksAll 66 = .ok (.ishr, 1) := by decide +kernel
theorem dX6_looksAll_67 : decode cX6_looksAll 67 = .ok (.iconst 1, 1) := by decide +kernel
theorem dX6_looksAll_68 : decode cX6_looksAll 68 = .ok (.iand, 1) := by decide +kernel
theorem dX6_looksAll_69 : decode cX6_looksAll 69 = .ok (.iconst 1, 1) := by decide +kernel
theorem dX6_looksAll_70 : decode cX6_looksAll 70 = .ok (.if_icmp .ne 7, 3) := by decide +kernel
theorem dX6_looksAll_73 : decode cX6_looksAll 73 = .ok (.iconst 1, 1) := by decide +kernel
theorem dX6_looksAll_74 : decode cX6_looksAll 74 = .ok (.goto 4, 3) := by decide +kernel
theorem dX6_looksAll_77 : decode cX6_looksAll 77 = .ok (.iconst 0, 1) := by decide +kernel
theorem dX6_looksAll_78 : decode cX6_looksAll 78 = .ok (.istore 4, 2) := by decide +kernel
theorem dX6_looksAll_80 : decode cX6_looksAll 80 = .ok (.iinc 5 1, 3) := by decide +kernel
theorem dX6_looksAll_83 : decode cX6_looksAll 83 = .ok (.goto (-65), 3) := by decide +kernel
theorem dX6_looksAll_86 : decode cX6_looksAll 86 = .ok (.iload_n 2, 1) := by decide +kernel
theorem dX6_looksAll_87 : decode cX6_looksAll 87 = .ok (.ifCond .eq 12, 3) := by decide +kernel
theorem dX6_looksAll_90 : decode cX6_looksAll 90 = .ok (.iload 4, 2) := by decide +kernel
theorem dX6_looksAll_92 : decode cX6_looksAll 92 = .ok (.ifCond .eq 7, 3) := by decide +kernel
theorem dX6_looksAll_95 : decode cX6_looksAll 95 = .ok (.iconst 1, 1) := by decide +kernel
theorem dX6_looksAll_96 : decode cX6_looksAll 96 = .ok (.goto 4, 3) := by decide +kernel
theorem dX6_looksAll_99 : decode cX6_looksAll 99 = .ok (.iconst 0, 1) := by decide +kernel
theorem dX6_looksAll_100 : decode cX6_looksAll 100 = .ok (.istore_n 2, 1) := by decide +kernel
theorem dX6_looksAll_101 : decode cX6_looksAll 101 = .ok (.iinc 3 1, 3) := by decide +kernel
theorem dX6_looksAll_104 : decode cX6_looksAll 104 = .ok (.goto (-100), 3) := by decide +kernel
theorem dX6_looksAll_107 : decode cX6_looksAll 107 = .ok (.iload_n 2, 1) := by decide +kernel
theorem dX6_looksAll_108 : decode cX6_looksAll 108 = .ok (.ireturn, 1) := by decide +kernel
theorem dX6_looks_0 : decode cX6_looks 0 = .ok (.iload_n 1, 1) := by decide +kernel
theorem dX6_looks_1 : decode cX6_looks 1 = .ok (.i2l, 1) := by decide +kernel
theorem dX6_looks_2 : decode cX6_looks 2 = .ok (.lconst 0, 1) := by decide +kernel
theorem dX6_looks_3 : decode cX6_looks 3 = .ok (.lconst 1, 1) := by decide +kernel
theorem dX6_looks_4 : decode cX6_looks 4 = .ok (.invokestatic 68, 3) := by decide +kernel
theorem dX6_looks_7 : decode cX6_looks 7 = .ok (.ifCond .ne 5, 3) := by decide +kernel
theorem dX6_looks_10 : decode cX6_looks 10 = .ok (.iconst (-1), 1) := by decide +kernel
theorem dX6_looks_11 : decode cX6_looks 11 = .ok (.ireturn, 1) := by decide +kernel
theorem dX6_looks_12 : decode cX6_looks 12 = .ok (.bipush (-4), 2) := by decide +kernel
theorem dX6_looks_14 : decode cX6_looks 14 = .ok (.istore_n 2, 1) := by decide +kernel
theorem dX6_looks_15 : decode cX6_looks 15 = .ok (.iconst 1, 1) := by decide +kernel
theorem dX6_looks_16 : decode cX6_looks 16 = .ok (.aload_n 0, 1) := by decide +kernel
theorem dX6_looks_17 : decode cX6_looks 17 = .ok (.getfield 13, 3) := by decide +kernel
theorem dX6_looks_20 : decode cX6_looks 20 = .ok (.ishl, 1) := by decide +kernel
theorem dX6_looks_21 : decode cX6_looks 21 = .ok (.iconst 1, 1) := by decide +kernel
theorem dX6_looks_22 : decode cX6_looks 22 = .ok (.isub, 1) := by decide +kernel
theorem dX6_looks_23 : decode cX6_looks 23 = .ok (.istore_n 3, 1) := by decide +kernel
theorem dX6_looks_24 : decode cX6_looks 24 = .ok (.iload_n 3, 1) := by decide +kernel
theorem dX6_looks_25 : decode cX6_looks 25 = .ok (.ifCond .lt 36, 3) := by decide +kernel
theorem dX6_looks_28 : decode cX6_looks 28 = .ok (.aload_n 0, 1) := by decide +kernel
theorem dX6_looks_29 : decode cX6_looks 29 = .ok (.iload_n 3, 1) := by decide +kernel
theorem dX6_looks_30 : decode cX6_looks 30 = .ok (.invokevirtual 280, 3) := by decide +kernel
theorem dX6_looks_33 : decode cX6_looks 33 = .ok (.ifCond .eq 22, 3) := by decide +kernel
theorem dX6_looks_36 : decode cX6_looks 36 = .ok (.iload_n 2, 1) := by decide +kernel
theorem dX6_looks_37 : decode cX6_looks 37 = .ok (.bipush (-4), 2) := by decide +kernel
theorem dX6_looks_39 : decode cX6_looks 39 = .ok (.if_icmp .eq 14, 3) := by decide +kernel
theorem dX6_looks_42 : decode cX6_looks 42 = .ok (.iload_n 3, 1) := by decide +kernel
theorem dX6_looks_43 : decode cX6_looks 43 = .ok (.invokestatic 270, 3) := by decide +kernel
theorem dX6_looks_46 : decode cX6_looks 46 = .ok (.iload_n 2, 1) := by decide +kernel
theorem dX6_looks_47 : decode cX6_looks 47 = .ok (.invokestatic 270, 3) := by decide +kernel
theorem dX6_looks_50 : decode cX6_looks 50 = .ok (.if_icmp .gt 5, 3) := by decide +kernel
theorem dX6_looks_53 : decode cX6_looks 53 = .ok (.iload_n 3, 1) := by decide +kernel
theorem dX6_looks_54 : decode cX6_looks 54 = .ok (.istore_n 2, 1) := by decide +kernel
theorem dX6_looks_55 : decode cX6_looks 55 = .ok (.iinc 3 (-1), 3) := by decide +kernel
theorem dX6_looks_58 : decode cX6_looks 58 = .ok (.goto (-34), 3) := by decide +kernel
theorem dX6_looks_61 : decode cX6_looks 61 = .ok (.iload_n 2, 1) := by decide +kernel
theorem dX6_looks_62 : decode cX6_looks 62 = .ok (.bipush (-4), 2) := by decide +kernel
theorem dX6_looks_64 : decode cX6_looks 64 = .ok (.if_icmp .eq 8, 3) := by decide +kernel
theorem dX6_looks_67 : decode cX6_looks 67 = .ok (.iload_n 1, 1) := by decide +kernel
theorem dX6_looks_68 : decode cX6_looks 68 = .ok (.iconst 1, 1) := by decide +kernel
theorem dX6_looks_69 : decode cX6_looks 69 = .ok (.if_icmp .ne 7, 3) := by decide +kernel
theorem dX6_looks_72 : decode cX6_looks 72 = .ok (.iload_n 2, 1) := by decide +kernel
theorem dX6_looks_73 : decode cX6_looks 73 = .ok (.goto 7, 3) := by decide +kernel
theorem dX6_looks_76 : decode cX6_looks 76 = .ok (.iload_n 2, 1) := by decide +kernel
theorem dX6_looks_77 : decode cX6_looks 77 = .ok (.invokestatic 270, 3) := by decide +kernel
theorem dX6_looks_80 : decode cX6_looks 80 = .ok (.ireturn, 1) := by decide +kernel
theorem dX6_byLife_0 : decode cX6_byLife 0 = .ok (.iconst 0, 1) := by decide +kernel
theorem dX6_byLife_1 : decode cX6_byLife 1 = .ok (.istore 4, 2) := by decide +kernel
theorem dX6_byLife_3 : decode cX6_byLife 3 = .ok (.lconst 0, 1) := by decide +kernel
theorem dX6_byLife_4 : decode cX6_byLife 4 = .ok (.lstore 5, 2) := by decide +kernel
theorem dX6_byLife_6 : decode cX6_byLife 6 = .ok (.lconst 1, 1) := by decide +kernel
theorem dX6_byLife_7 : decode cX6_byLife 7 = .ok (.lstore 7, 2) := by decide +kernel
theorem dX6_byLife_9 : decode cX6_byLife 9 = .ok (.iconst 0, 1) := by decide +kernel
theorem dX6_byLife_10 : decode cX6_byLife 10 = .ok (.istore 9, 2) := by decide +kernel
theorem dX6_byLife_12 : decode cX6_byLife 12 = .ok (.iload 9, 2) := by decide +kernel
theorem dX6_byLife_14 : decode cX6_byLife 14 = .ok (.aload_n 0, 1) := by decide +kernel
theorem dX6_byLife_15 : decode cX6_byLife 15 = .ok (.getfield 182, 3) := by decide +kernel
theorem dX6_byLife_18 : decode cX6_byLife 18 = .ok (.if_icmp .ge 40, 3) := by decide +kernel
theorem dX6_byLife_21 : decode cX6_byLife 21 = .ok (.iload 4, 2) := by decide +kernel
theorem dX6_byLife_23 : decode cX6_byLife 23 = .ok (.aload_n 0, 1) := by decide +kernel
theorem dX6_byLife_24 : decode cX6_byLife 24 = .ok (.iconst 0, 1) := by decide +kernel
theorem dX6_byLife_25 : decode cX6_byLife 25 = .ok (.iload 9, 2) := by decide +kernel
theorem dX6_byLife_27 : decode cX6_byLife 27 = .ok (.invokevirtual 208, 3) := by decide +kernel
theorem dX6_byLife_30 : decode cX6_byLife 30 = .ok (.ifCond .eq 10, 3) := by decide +kernel
theorem dX6_byLife_33 : decode cX6_byLife 33 = .ok (.iconst 1, 1) := by decide +kernel
theorem dX6_byLife_34 : decode cX6_byLife 34 = .ok (.iload 9, 2) := by decide +kernel
theorem dX6_byLife_36 : decode cX6_byLife 36 = .ok (.ishl, 1) := by decide +kernel
theorem dX6_byLife_37 : decode cX6_byLife 37 = .ok (.goto 4, 3) := by decide +kernel
theorem dX6_byLife_40 : decode cX6_byLife 40 = .ok (.iconst 0, 1) := by decide +kernel
theorem dX6_byLife_41 : decode cX6_byLife 41 = .ok (.ior, 1) := by decide +kernel
theorem dX6_byLife_42 : decode cX6_byLife 42 = .ok (.istore 4, 2) := by decide +kernel
theorem dX6_byLife_44 : decode cX6_byLife 44 = .ok (.lload 7, 2) := by decide +kernel
theorem dX6_byLife_46 : decode cX6_byLife 46 = .ok (.ldc2_w 283, 3) := by decide +kernel
theorem dX6_byLife_49 : decode cX6_byLife 49 = .ok (.lmul, 1) := by decide +kernel
theorem dX6_byLife_50 : decode cX6_byLife 50 = .ok (.lstore 7, 2) := by decide +kernel
theorem dX6_byLife_52 : decode cX6_byLife 52 = .ok (.iinc 9 1, 3) := by decide +kernel
theorem dX6_byLife_55 : decode cX6_byLife 55 = .ok (.goto (-43), 3) := by decide +kernel
theorem dX6_byLife_58 : decode cX6_byLife 58 = .ok (.iconst 0, 1) := by decide +kernel
theorem dX6_byLife_59 : decode cX6_byLife 59 = .ok (.istore 9, 2) := by decide +kernel
theorem dX6_byLife_61 : decode cX6_byLife 61 = .ok (.iload 9, 2) := by decide +kernel
theorem dX6_byLife_63 : decode cX6_byLife 63 = .ok (.iconst 1, 1) := by decide +kernel
theorem dX6_byLife_64 : decode cX6_byLife 64 = .ok (.aload_n 0, 1) := by decide +kernel
theorem dX6_byLife_65 : decode cX6_byLife 65 = .ok (.getfield 182, 3) := by decide +kernel
theorem dX6_byLife_68 : decode cX6_byLife 68 = .ok (.ishl, 1) := by decide +kernel
theorem dX6_byLife_69 : decode cX6_byLife 69 = .ok (.if_icmp .ge 94, 3) := by decide +kernel
theorem dX6_byLife_72 : decode cX6_byLife 72 = .ok (.lconst 1, 1) := by decide +kernel
theorem dX6_byLife_73 : decode cX6_byLife 73 = .ok (.lstore 10, 2) := by decide +kernel
theorem dX6_byLife_75 : decode cX6_byLife 75 = .ok (.iconst 0, 1) := by decide +kernel
theorem dX6_byLife_76 : decode cX6_byLife 76 = .ok (.istore 12, 2) := by decide +kernel
theorem dX6_byLife_78 : decode cX6_byLife 78 = .ok (.iload 12, 2) := by decide +kernel
theorem dX6_byLife_80 : decode cX6_byLife 80 = .ok (.aload_n 0, 1) := by decide +kernel
theorem dX6_byLife_81 : decode cX6_byLife 81 = .ok (.getfield 182, 3) := by decide +kernel
theorem dX6_byLife_84 : decode cX6_byLife 84 = .ok (.if_icmp .ge 35, 3) := by decide +kernel
theorem dX6_byLife_87 : decode cX6_byLife 87 = .ok (.lload 10, 2) := by decide +kernel
theorem dX6_byLife_89 : decode cX6_byLife 89 = .ok (.iload 9, 2) := by decide +kernel
theorem dX6_byLife_91 : decode cX6_byLife 91 = .ok (.iload 12, 2) := by decide +kernel
theorem dX6_byLife_93 : decode cX6_byLife 93 = .ok (.ishr, 1) := by decide +kernel
theorem dX6_byLife_94 : decode cX6_byLife 94 = .ok (.iconst 1, 1) := by decide +kernel
theorem dX6_byLife_95 : decode cX6_byLife 95 = .ok (.iand, 1) := by decide +kernel
theorem dX6_byLife_96 : decode cX6_byLife 96 = .ok (.iconst 1, 1) := by decide +kernel
theorem dX6_byLife_97 : decode cX6_byLife 97 = .ok (.if_icmp .ne 11, 3) := by decide +kernel
theorem dX6_byLife_100 : decode cX6_byLife 100 = .ok (.bipush 10, 2) := by decide +kernel
theorem dX6_byLife_102 : decode cX6_byLife 102 = .ok (.iload_n 1, 1) := by decide +kernel
theorem dX6_byLife_103 : decode cX6_byLife 103 = .ok (.isub, 1) := by decide +kernel
theorem dX6_byLife_104 : decode cX6_byLife 104 = .ok (.i2l, 1) := by decide +kernel
theorem dX6_byLife_105 : decode cX6_byLife 105 = .ok (.goto 5, 3) := by decide +kernel
theorem dX6_byLife_108 : decode cX6_byLife 108 = .ok (.iload_n 1, 1) := by decide +kernel
theorem dX6_byLife_109 : decode cX6_byLife 109 = .ok (.i2l, 1) := by decide +kernel
theorem dX6_byLife_110 : decode cX6_byLife 110 = .ok (.lmul, 1) := by decide +kernel
theorem dX6_byLife_111 : decode cX6_byLife 111 = .ok (.lstore 10, 2) := by decide +kernel
theorem dX6_byLife_113 : decode cX6_byLife 113 = .ok (.iinc 12 1, 3) := by decide +kernel
theorem dX6_byLife_116 : decode cX6_byLife 116 = .ok (.goto (-38), 3) := by decide +kernel
theorem dX6_byLife_119 : decode cX6_byLife 119 = .ok (.lload 5, 2) := by decide +kernel
theorem dX6_byLife_121 : decode cX6_byLife 121 = .ok (.lload 10, 2) := by decide +kernel
theorem dX6_byLife_123 : decode cX6_byLife 123 = .ok (.iload_n 2, 1) := by decide +kernel
theorem dX6_byLife_124 : decode cX6_byLife 124 = .ok (.ifCond .eq 13, 3) := by decide +kernel
theorem dX6_byLife_127 : decode cX6_byLife 127 = .ok (.aload_n 0, 1) := by decide +kernel
theorem dX6_byLife_128 : decode cX6_byLife 128 = .ok (.iconst 0, 1) := by decide +kernel
theorem dX6_byLife_129 : decode cX6_byLife 129 = .ok (.iload 9, 2) := by decide +kernel
theorem dX6_byLife_131 : decode cX6_byLife 131 = .ok (.invokevirtual 267, 3) := by decide +kernel
theorem dX6_byLife_134 : decode cX6_byLife 134 = .ok (.goto 18, 3) := by decide +kernel
theorem dX6_byLife_137 : decode cX6_byLife 137 = .ok (.iload 4, 2) := by decide +kernel
theorem dX6_byLife_139 : decode cX6_byLife 139 = .ok (.iload 9, 2) := by decide +kernel
theorem dX6_byLife_141 : decode cX6_byLife 141 = .ok (.iconst (-1), 1) := by decide +kernel
theorem dX6_byLife_142 : decode cX6_byLife 142 = .ok (.ixor, 1) := by decide +kernel
theorem dX6_byLife_143 : decode cX6_byLife 143 = .ok (.iand, 1) := by decide +kernel
theorem dX6_byLife_144 : decode cX6_byLife 144 = .ok (.ifCond .ne 7, 3) := by decide +kernel
theorem dX6_byLife_147 : decode cX6_byLife 147 = .ok (.iconst 1, 1) := by decide +kernel
theorem dX6_byLife_148 : decode cX6_byLife 148 = .ok (.goto 4, 3) := by decide +kernel
theorem dX6_byLife_151 : decode cX6_byLife 151 = .ok (.iconst 0, 1) := by decide +kernel
theorem dX6_byLife_152 : decode cX6_byLife 152 = .ok (.i2l, 1) := by decide +kernel
theorem dX6_byLife_153 : decode cX6_byLife 153 = .ok (.lmul, 1) := by decide +kernel
theorem dX6_byLife_154 : decode cX6_byLife 154 = .ok (.ladd, 1) := by decide +kernel
theorem dX6_byLife_155 : decode cX6_byLife 155 = .ok (.lstore 5, 2) := by decide +kernel
theorem dX6_byLife_157 : decode cX6_byLife 157 = .ok (.iinc 9 1, 3) := by decide +kernel
theorem dX6_byLife_160 : decode cX6_byLife 160 = .ok (.goto (-99), 3) := by decide +kernel
theorem dX6_byLife_163 : decode cX6_byLife 163 = .ok (.lload 5, 2) := by decide +kernel
theorem dX6_byLife_165 : decode cX6_byLife 165 = .ok (.lload 7, 2) := by decide +kernel
theorem dX6_byLife_167 : decode cX6_byLife 167 = .ok (.iload_n 3, 1) := by decide +kernel
theorem dX6_byLife_168 : decode cX6_byLife 168 = .ok (.invokestatic 276, 3) := by decide +kernel
theorem dX6_byLife_171 : decode cX6_byLife 171 = .ok (.lreturn, 1) := by decide +kernel
theorem dX6_alive_0 : decode cX6_alive 0 = .ok (.iload_n 1, 1) := by decide +kernel
theorem dX6_alive_1 : decode cX6_alive 1 = .ok (.i2l, 1) := by decide +kernel
theorem dX6_alive_2 : decode cX6_alive 2 = .ok (.lconst 0, 1) := by decide +kernel
theorem dX6_alive_3 : decode cX6_alive 3 = .ok (.ldc2_w 283, 3) := by decide +kernel
theorem dX6_alive_6 : decode cX6_alive 6 = .ok (.invokestatic 68, 3) := by decide +kernel
theorem dX6_alive_9 : decode cX6_alive 9 = .ok (.ifCond .eq 23, 3) := by decide +kernel
theorem dX6_alive_12 : decode cX6_alive 12 = .ok (.iload_n 2, 1) := by decide +kernel
theorem dX6_alive_13 : decode cX6_alive 13 = .ok (.i2l, 1) := by decide +kernel
theorem dX6_alive_14 : decode cX6_alive 14 = .ok (.lconst 0, 1) := by decide +kernel
theorem dX6_alive_15 : decode cX6_alive 15 = .ok (.lconst 1, 1) := by decide +kernel
theorem dX6_alive_16 : decode cX6_alive 16 = .ok (.invokestatic 68, 3) := by decide +kernel
theorem dX6_alive_19 : decode cX6_alive 19 = .ok (.ifCond .eq 13, 3) := by decide +kernel
theorem dX6_alive_22 : decode cX6_alive 22 = .ok (.aload_n 0, 1) := by decide +kernel
theorem dX6_alive_23 : decode cX6_alive 23 = .ok (.iload_n 1, 1) := by decide +kernel
theorem dX6_alive_24 : decode cX6_alive 24 = .ok (.iconst 0, 1) := by decide +kernel
theorem dX6_alive_25 : decode cX6_alive 25 = .ok (.iload_n 2, 1) := by decide +kernel
theorem dX6_alive_26 : decode cX6_alive 26 = .ok (.invokevirtual 285, 3) := by decide +kernel
theorem dX6_alive_29 : decode cX6_alive 29 = .ok (.goto 6, 3) := by decide +kernel
theorem dX6_alive_32 : decode cX6_alive 32 = .ok (.ldc2_w 211, 3) := by decide +kernel
theorem dX6_alive_35 : decode cX6_alive 35 = .ok (.lreturn, 1) := by decide +kernel
theorem dX6_mean_0 : decode cX6_mean 0 = .ok (.iload_n 1, 1) := by decide +kernel
theorem dX6_mean_1 : decode cX6_mean 1 = .ok (.i2l, 1) := by decide +kernel
theorem dX6_mean_2 : decode cX6_mean 2 = .ok (.lconst 0, 1) := by decide +kernel
theorem dX6_mean_3 : decode cX6_mean 3 = .ok (.ldc2_w 283, 3) := by decide +kernel
theorem dX6_mean_6 : decode cX6_mean 6 = .ok (.invokestatic 68, 3) := by decide +kernel
theorem dX6_mean_9 : decode cX6_mean 9 = .ok (.ifCond .eq 23, 3) := by decide +kernel
theorem dX6_mean_12 : decode cX6_mean 12 = .ok (.iload_n 2, 1) := by decide +kernel
theorem dX6_mean_13 : decode cX6_mean 13 = .ok (.i2l, 1) := by decide +kernel
theorem dX6_mean_14 : decode cX6_mean 14 = .ok (.lconst 0, 1) := by decide +kernel
theorem dX6_mean_15 : decode cX6_mean 15 = .ok (.lconst 1, 1) := by decide +kernel
theorem dX6_mean_16 : decode cX6_mean 16 = .ok (.invokestatic 68, 3) := by decide +kernel
theorem dX6_mean_19 : decode cX6_mean 19 = .ok (.ifCond .eq 13, 3) := by decide +kernel
theorem dX6_mean_22 : decode cX6_mean 22 = .ok (.aload_n 0, 1) := by decide +kernel
theorem dX6_mean_23 : decode cX6_mean 23 = .ok (.iload_n 1, 1) := by decide +kernel
theorem dX6_mean_24 : decode cX6_mean 24 = .ok (.iconst 1, 1) := by decide +kernel
theorem dX6_mean_25 : decode cX6_mean 25 = .ok (.iload_n 2, 1) := by decide +kernel
theorem dX6_mean_26 : decode cX6_mean 26 = .ok (.invokevirtual 285, 3) := by decide +kernel
theorem dX6_mean_29 : decode cX6_mean 29 = .ok (.goto 6, 3) := by decide +kernel
theorem dX6_mean_32 : decode cX6_mean 32 = .ok (.ldc2_w 211, 3) := by decide +kernel
theorem dX6_mean_35 : decode cX6_mean 35 = .ok (.lreturn, 1) := by decide +kernel
theorem dX6_see_0 : decode cX6_see 0 = .ok (.aload_n 0, 1) := by decide +kernel
theorem dX6_see_1 : decode cX6_see 1 = .ok (.iload_n 1, 1) := by decide +kernel
theorem dX6_see_2 : decode cX6_see 2 = .ok (.invokevirtual 198, 3) := by decide +kernel
theorem dX6_see_5 : decode cX6_see 5 = .ok (.ifCond .eq 16, 3) := by decide +kernel
theorem dX6_see_8 : decode cX6_see 8 = .ok (.aload_n 0, 1) := by decide +kernel
theorem dX6_see_9 : decode cX6_see 9 = .ok (.iload_n 2, 1) := by decide +kernel
theorem dX6_see_10 : decode cX6_see 10 = .ok (.invokevirtual 198, 3) := by decide +kernel
theorem dX6_see_13 : decode cX6_see 13 = .ok (.ifCond .eq 8, 3) := by decide +kernel
theorem dX6_see_16 : decode cX6_see 16 = .ok (.iload_n 1, 1) := by decide +kernel
theorem dX6_see_17 : decode cX6_see 17 = .ok (.iload_n 2, 1) := by decide +kernel
theorem dX6_see_18 : decode cX6_see 18 = .ok (.if_icmp .ne 5, 3) := by decide +kernel
theorem dX6_see_21 : decode cX6_see 21 = .ok (.iconst (-1), 1) := by decide +kernel
theorem dX6_see_22 : decode cX6_see 22 = .ok (.ireturn, 1) := by decide +kernel
theorem dX6_see_23 : decode cX6_see 23 = .ok (.aload_n 0, 1) := by decide +kernel
theorem dX6_see_24 : decode cX6_see 24 = .ok (.getfield 191, 3) := by decide +kernel
theorem dX6_see_27 : decode cX6_see 27 = .ok (.bipush 6, 2) := by decide +kernel
theorem dX6_see_29 : decode cX6_see 29 = .ok (.if_icmp .ne 6, 3) := by decide +kernel
theorem dX6_see_32 : decode cX6_see 32 = .ok (.bipush (-3), 2) := by decide +kernel
theorem dX6_see_34 : decode cX6_see 34 = .ok (.ireturn, 1) := by decide +kernel
theorem dX6_see_35 : decode cX6_see 35 = .ok (.aload_n 0, 1) := by decide +kernel
theorem dX6_see_36 : decode cX6_see 36 = .ok (.getfield 47, 3) := by decide +kernel
theorem dX6_see_39 : decode cX6_see 39 = .ok (.iconst 3, 1) := by decide +kernel
theorem dX6_see_40 : decode cX6_see 40 = .ok (.aload_n 0, 1) := by decide +kernel
theorem dX6_see_41 : decode cX6_see 41 = .ok (.getfield 191, 3) := by decide +kernel
theorem dX6_see_44 : decode cX6_see 44 = .ok (.imul, 1) := by decide +kernel
theorem dX6_see_45 : decode cX6_see 45 = .ok (.iload_n 1, 1) := by decide +kernel
theorem dX6_see_46 : decode cX6_see 46 = .ok (.iastore, 1) := by decide +kernel
theorem dX6_see_47 : decode cX6_see 47 = .ok (.aload_n 0, 1) := by decide +kernel
theorem dX6_see_48 : decode cX6_see 48 = .ok (.getfield 47, 3) := by decide +kernel
theorem dX6_see_51 : decode cX6_see 51 = .ok (.iconst 3, 1) := by decide +kernel
theorem dX6_see_52 : decode cX6_see 52 = .ok (.aload_n 0, 1) := by decide +kernel
theorem dX6_see_53 : decode cX6_see 53 = .ok (.getfield 191, 3) := by decide +kernel
theorem dX6_see_56 : decode cX6_see 56 = .ok (.imul, 1) := by decide +kernel
theorem dX6_see_57 : decode cX6_see 57 = .ok (.iconst 1, 1) := by decide +kernel
theorem dX6_see_58 : decode cX6_see 58 = .ok (.iadd, 1) := by decide +kernel
theorem dX6_see_59 : decode cX6_see 59 = .ok (.iload_n 2, 1) := by decide +kernel
theorem dX6_see_60 : decode cX6_see 60 = .ok (.iastore, 1) := by decide +kernel
theorem dX6_see_61 : decode cX6_see 61 = .ok (.aload_n 0, 1) := by decide +kernel
theorem dX6_see_62 : decode cX6_see 62 = .ok (.getfield 47, 3) := by decide +kernel
theorem dX6_see_65 : decode cX6_see 65 = .ok (.iconst 3, 1) := by decide +kernel
theorem dX6_see_66 : decode cX6_see 66 = .ok (.aload_n 0, 1) := by decide +kernel
theorem dX6_see_67 : decode cX6_see 67 = .ok (.getfield 191, 3) := by decide +kernel
theorem dX6_see_70 : decode cX6_see 70 = .ok (.imul, 1) := by decide +kernel
theorem dX6_see_71 : decode cX6_see 71 = .ok (.iconst 2, 1) := by decide +kernel
theorem dX6_see_72 : decode cX6_see 72 = .ok (.iadd, 1) := by decide +kernel
theorem dX6_see_73 : decode cX6_see 73 = .ok (.iload_n 3, 1) := by decide +kernel
theorem dX6_see_74 : decode cX6_see 74 = .ok (.ifCond .eq 7, 3) := by decide +kernel
theorem dX6_see_77 : decode cX6_see 77 = .ok (.iconst 1, 1) := by decide +kernel
theorem dX6_see_78 : decode cX6_see 78 = .ok (.goto 4, 3) := by decide +kernel
theorem dX6_see_81 : decode cX6_see 81 = .ok (.iconst 0, 1) := by decide +kernel
theorem dX6_see_82 : decode cX6_see 82 = .ok (.iastore, 1) := by decide +kernel
theorem dX6_see_83 : decode cX6_see 83 = .ok (.aload_n 0, 1) := by decide +kernel
theorem dX6_see_84 : decode cX6_see 84 = .ok (.dup, 1) := by decide +kernel
theorem dX6_see_85 : decode cX6_see 85 = .ok (.getfield 191, 3) := by decide +kernel
theorem dX6_see_88 : decode cX6_see 88 = .ok (.iconst 1, 1) := by decide +kernel
theorem dX6_see_89 : decode cX6_see 89 = .ok (.iadd, 1) := by decide +kernel
theorem dX6_see_90 : decode cX6_see 90 = .ok (.putfield 191, 3) := by decide +kernel
theorem dX6_see_93 : decode cX6_see 93 = .ok (.aload_n 0, 1) := by decide +kernel
theorem dX6_see_94 : decode cX6_see 94 = .ok (.getfield 191, 3) := by decide +kernel
theorem dX6_see_97 : decode cX6_see 97 = .ok (.ireturn, 1) := by decide +kernel
theorem dX6_forget_0 : decode cX6_forget 0 = .ok (.iload_n 1, 1) := by decide +kernel
theorem dX6_forget_1 : decode cX6_forget 1 = .ok (.i2l, 1) := by decide +kernel
theorem dX6_forget_2 : decode cX6_forget 2 = .ok (.lconst 0, 1) := by decide +kernel
theorem dX6_forget_3 : decode cX6_forget 3 = .ok (.aload_n 0, 1) := by decide +kernel
theorem dX6_forget_4 : decode cX6_forget 4 = .ok (.getfield 191, 3) := by decide +kernel
theorem dX6_forget_7 : decode cX6_forget 7 = .ok (.i2l, 1) := by decide +kernel
theorem dX6_forget_8 : decode cX6_forget 8 = .ok (.invokestatic 68, 3) := by decide +kernel
theorem dX6_forget_11 : decode cX6_forget 11 = .ok (.ifCond .ne 5, 3) := by decide +kernel
theorem dX6_forget_14 : decode cX6_forget 14 = .ok (.iconst (-1), 1) := by decide +kernel
theorem dX6_forget_15 : decode cX6_forget 15 = .ok (.ireturn, 1) := by decide +kernel
theorem dX6_forget_16 : decode cX6_forget 16 = .ok (.aload_n 0, 1) := by decide +kernel
theorem dX6_forget_17 : decode cX6_forget 17 = .ok (.getfield 191, 3) := by decide +kernel
theorem dX6_forget_20 : decode cX6_forget 20 = .ok (.istore_n 2, 1) := by decide +kernel
theorem dX6_forget_21 : decode cX6_forget 21 = .ok (.aload_n 0, 1) := by decide +kernel
theorem dX6_forget_22 : decode cX6_forget 22 = .ok (.iload_n 1, 1) := by decide +kernel
theorem dX6_forget_23 : decode cX6_forget 23 = .ok (.putfield 191, 3) := by decide +kernel
theorem dX6_forget_26 : decode cX6_forget 26 = .ok (.iload_n 2, 1) := by decide +kernel
theorem dX6_forget_27 : decode cX6_forget 27 = .ok (.ireturn, 1) := by decide +kernel
theorem dX6_isPossible_0 : decode cX6_isPossible 0 = .ok (.aload_n 0, 1) := by decide +kernel
theorem dX6_isPossible_1 : decode cX6_isPossible 1 = .ok (.iload_n 1, 1) := by decide +kernel
theorem dX6_isPossible_2 : decode cX6_isPossible 2 = .ok (.invokevirtual 255, 3) := by decide +kernel
theorem dX6_isPossible_5 : decode cX6_isPossible 5 = .ok (.istore_n 2, 1) := by decide +kernel
theorem dX6_isPossible_6 : decode cX6_isPossible 6 = .ok (.iconst 0, 1) := by decide +kernel
theorem dX6_isPossible_7 : decode cX6_isPossible 7 = .ok (.istore_n 3, 1) := by decide +kernel
theorem dX6_isPossible_8 : decode cX6_isPossible 8 = .ok (.iload_n 3, 1) := by decide +kernel
theorem dX6_isPossible_9 : decode cX6_isPossible 9 = .ok (.aload_n 0, 1) := by decide +kernel
theorem dX6_isPossible_10 : decode cX6_isPossible 10 = .ok (.getfield 191, 3) := by decide +kernel
theorem dX6_isPossible_13 : decode cX6_isPossible 13 = .ok (.if_icmp .ge 68, 3) := by decide +kernel
theorem dX6_isPossible_16 : decode cX6_isPossible 16 = .ok (.iload_n 2, 1) := by decide +kernel
theorem dX6_isPossible_17 : decode cX6_isPossible 17 = .ok (.ifCond .eq 56, 3) := by decide +kernel
theorem dX6_isPossible_20 : decode cX6_isPossible 20 = .ok (.aload_n 0, 1) := by decide +kernel
theorem dX6_isPossible_21 : decode cX6_isPossible 21 = .ok (.getfield 44, 3) := by decide +kernel
theorem dX6_isPossible_24 : decode cX6_isPossible 24 = .ok (.aload_n 0, 1) := by decide +kernel
theorem dX6_isPossible_25 : decode cX6_isPossible 25 = .ok (.getfield 47, 3) := by decide +kernel
theorem dX6_isPossible_28 : decode cX6_isPossible 28 = .ok (.iconst 3, 1) := by decide +kernel
theorem dX6_isPossible_29 : decode cX6_isPossible 29 = .ok (.iload_n 3, 1) := by decide +kernel
theorem dX6_isPossible_30 : decode cX6_isPossible 30 = .ok (.imul, 1) := by decide +kernel
theorem dX6_isPossible_31 : decode cX6_isPossible 31 = .ok (.iaload, 1) := by decide +kernel
theorem dX6_isPossible_32 : decode cX6_isPossible 32 = .ok (.iaload, 1) := by decide +kernel
theorem dX6_isPossible_33 : decode cX6_isPossible 33 = .ok (.aload_n 0, 1) := by decide +kernel
theorem dX6_isPossible_34 : decode cX6_isPossible 34 = .ok (.getfield 44, 3) := by decide +kernel
theorem dX6_isPossible_37 : decode cX6_isPossible 37 = .ok (.aload_n 0, 1) := by decide +kernel
theorem dX6_isPossible_38 : decode cX6_isPossible 38 = .ok (.getfield 47, 3) := by decide +kernel
theorem dX6_isPossible_41 : decode cX6_isPossible 41 = .ok (.iconst 3, 1) := by decide +kernel
theorem dX6_isPossible_42 : decode cX6_isPossible 42 = .ok (.iload_n 3, 1) := by decide +kernel
theorem dX6_isPossible_43 : decode cX6_isPossible 43 = .ok (.imul, 1) := by decide +kernel
theorem dX6_isPossible_44 : decode cX6_isPossible 44 = .ok (.iconst 1, 1) := by decide +kernel
theorem dX6_isPossible_45 : decode cX6_isPossible 45 = .ok (.iadd, 1) := by decide +kernel
theorem dX6_isPossible_46 : decode cX6_isPossible 46 = .ok (.iaload, 1) := by decide +kernel
theorem dX6_isPossible_47 : decode cX6_isPossible 47 = .ok (.iaload, 1) := by decide +kernel
theorem dX6_isPossible_48 : decode cX6_isPossible 48 = .ok (.if_icmp .ne 7, 3) := by decide +kernel
theorem dX6_isPossible_51 : decode cX6_isPossible 51 = .ok (.iconst 1, 1) := by decide +kernel
theorem dX6_isPossible_52 : decode cX6_isPossible 52 = .ok (.goto 4, 3) := by decide +kernel
theorem dX6_isPossible_55 : decode cX6_isPossible 55 = .ok (.iconst 0, 1) := by decide +kernel
theorem dX6_isPossible_56 : decode cX6_isPossible 56 = .ok (.aload_n 0, 1) := by decide +kernel
theorem dX6_isPossible_57 : decode cX6_isPossible 57 = .ok (.getfield 47, 3) := by decide +kernel
theorem dX6_isPossible_60 : decode cX6_isPossible 60 = .ok (.iconst 3, 1) := by decide +kernel
theorem dX6_isPossible_61 : decode cX6_isPossible 61 = .ok (.iload_n 3, 1) := by decide +kernel
theorem dX6_isPossible_62 : decode cX6_isPossible 62 = .ok (.imul, 1) := by decide +kernel
theorem dX6_isPossible_63 : decode cX6_isPossible 63 = .ok (.iconst 2, 1) := by decide +kernel
theorem dX6_isPossible_64 : decode cX6_isPossible 64 = .ok (.iadd, 1) := by decide +kernel
theorem dX6_isPossible_65 : decode cX6_isPossible 65 = .ok (.iaload, 1) := by decide +kernel
theorem dX6_isPossible_66 : decode cX6_isPossible 66 = .ok (.if_icmp .ne 7, 3) := by decide +kernel
theorem dX6_isPossible_69 : decode cX6_isPossible 69 = .ok (.iconst 1, 1) := by decide +kernel
theorem dX6_isPossible_70 : decode cX6_isPossible 70 = .ok (.goto 4, 3) := by decide +kernel
theorem dX6_isPossible_73 : decode cX6_isPossible 73 = .ok (.iconst 0, 1) := by decide +kernel
theorem dX6_isPossible_74 : decode cX6_isPossible 74 = .ok (.istore_n 2, 1) := by decide +kernel
theorem dX6_isPossible_75 : decode cX6_isPossible 75 = .ok (.iinc 3 1, 3) := by decide +kernel
theorem dX6_isPossible_78 : decode cX6_isPossible 78 = .ok (.goto (-70), 3) := by decide +kernel
theorem dX6_isPossible_81 : decode cX6_isPossible 81 = .ok (.iload_n 2, 1) := by decide +kernel
theorem dX6_isPossible_82 : decode cX6_isPossible 82 = .ok (.ireturn, 1) := by decide +kernel
theorem dX6_fits_0 : decode cX6_fits 0 = .ok (.iload_n 1, 1) := by decide +kernel
theorem dX6_fits_1 : decode cX6_fits 1 = .ok (.i2l, 1) := by decide +kernel
theorem dX6_fits_2 : decode cX6_fits 2 = .ok (.lconst 0, 1) := by decide +kernel
theorem dX6_fits_3 : decode cX6_fits 3 = .ok (.lconst 1, 1) := by decide +kernel
theorem dX6_fits_4 : decode cX6_fits 4 = .ok (.invokestatic 68, 3) := by decide +kernel
theorem dX6_fits_7 : decode cX6_fits 7 = .ok (.ifCond .ne 5, 3) := by decide +kernel
theorem dX6_fits_10 : decode cX6_fits 10 = .ok (.iconst (-1), 1) := by decide +kernel
theorem dX6_fits_11 : decode cX6_fits 11 = .ok (.ireturn, 1) := by decide +kernel
theorem dX6_fits_12 : decode cX6_fits 12 = .ok (.iconst 0, 1) := by decide +kernel
theorem dX6_fits_13 : decode cX6_fits 13 = .ok (.istore_n 2, 1) := by decide +kernel
theorem dX6_fits_14 : decode cX6_fits 14 = .ok (.bipush (-4), 2) := by decide +kernel
theorem dX6_fits_16 : decode cX6_fits 16 = .ok (.istore_n 3, 1) := by decide +kernel
theorem dX6_fits_17 : decode cX6_fits 17 = .ok (.iconst 0, 1) := by decide +kernel
theorem dX6_fits_18 : decode cX6_fits 18 = .ok (.istore 4, 2) := by decide +kernel
theorem dX6_fits_20 : decode cX6_fits 20 = .ok (.iload 4, 2) := by decide +kernel
theorem dX6_fits_22 : decode cX6_fits 22 = .ok (.aload_n 0, 1) := by decide +kernel
theorem dX6_fits_23 : decode cX6_fits 23 = .ok (.invokevirtual 252, 3) := by decide +kernel
theorem dX6_fits_26 : decode cX6_fits 26 = .ok (.if_icmp .ge 46, 3) := by decide +kernel
theorem dX6_fits_29 : decode cX6_fits 29 = .ok (.aload_n 0, 1) := by decide +kernel
theorem dX6_fits_30 : decode cX6_fits 30 = .ok (.iload 4, 2) := by decide +kernel
theorem dX6_fits_32 : decode cX6_fits 32 = .ok (.invokevirtual 289, 3) := by decide +kernel
theorem dX6_fits_35 : decode cX6_fits 35 = .ok (.istore 5, 2) := by decide +kernel
theorem dX6_fits_37 : decode cX6_fits 37 = .ok (.iload 5, 2) := by decide +kernel
theorem dX6_fits_39 : decode cX6_fits 39 = .ok (.ifCond .eq 12, 3) := by decide +kernel
theorem dX6_fits_42 : decode cX6_fits 42 = .ok (.iload_n 2, 1) := by decide +kernel
theorem dX6_fits_43 : decode cX6_fits 43 = .ok (.ifCond .ne 8, 3) := by decide +kernel
theorem dX6_fits_46 : decode cX6_fits 46 = .ok (.iload 4, 2) := by decide +kernel
theorem dX6_fits_48 : decode cX6_fits 48 = .ok (.goto 4, 3) := by decide +kernel
theorem dX6_fits_51 : decode cX6_fits 51 = .ok (.iload_n 3, 1) := by decide +kernel
theorem dX6_fits_52 : decode cX6_fits 52 = .ok (.istore_n 3, 1) := by decide +kernel
theorem dX6_fits_53 : decode cX6_fits 53 = .ok (.iload_n 2, 1) := by decide +kernel
theorem dX6_fits_54 : decode cX6_fits 54 = .ok (.iload 5, 2) := by decide +kernel
theorem dX6_fits_56 : decode cX6_fits 56 = .ok (.ifCond .eq 7, 3) := by decide +kernel
theorem dX6_fits_59 : decode cX6_fits 59 = .ok (.iconst 1, 1) := by decide +kernel
theorem dX6_fits_60 : decode cX6_fits 60 = .ok (.goto 4, 3) := by decide +kernel
theorem dX6_fits_63 : decode cX6_fits 63 = .ok (.iconst 0, 1) := by decide +kernel
theorem dX6_fits_64 : decode cX6_fits 64 = .ok (.iadd, 1) := by decide +kernel
theorem dX6_fits_65 : decode cX6_fits 65 = .ok (.istore_n 2, 1) := by decide +kernel
theorem dX6_fits_66 : decode cX6_fits 66 = .ok (.iinc 4 1, 3) := by decide +kernel
theorem dX6_fits_69 : decode cX6_fits 69 = .ok (.goto (-49), 3) := by decide +kernel
theorem dX6_fits_72 : decode cX6_fits 72 = .ok (.iload_n 1, 1) := by decide +kernel
theorem dX6_fits_73 : decode cX6_fits 73 = .ok (.ifCond .ne 7, 3) := by decide +kernel
theorem dX6_fits_76 : decode cX6_fits 76 = .ok (.iload_n 2, 1) := by decide +kernel
theorem dX6_fits_77 : decode cX6_fits 77 = .ok (.goto 4, 3) := by decide +kernel
theorem dX6_fits_80 : decode cX6_fits 80 = .ok (.iload_n 3, 1) := by decide +kernel
theorem dX6_fits_81 : decode cX6_fits 81 = .ok (.ireturn, 1) := by decide +kernel
theorem dX6_ask_0 : decode cX6_ask 0 = .ok (.iload_n 1, 1) := by decide +kernel
theorem dX6_ask_1 : decode cX6_ask 1 = .ok (.i2l, 1) := by decide +kernel
theorem dX6_ask_2 : decode cX6_ask 2 = .ok (.lconst 0, 1) := by decide +kernel
theorem dX6_ask_3 : decode cX6_ask 3 = .ok (.lconst 1, 1) := by decide +kernel
theorem dX6_ask_4 : decode cX6_ask 4 = .ok (.invokestatic 68, 3) := by decide +kernel
theorem dX6_ask_7 : decode cX6_ask 7 = .ok (.ifCond .ne 5, 3) := by decide +kernel
theorem dX6_ask_10 : decode cX6_ask 10 = .ok (.iconst (-1), 1) := by decide +kernel
theorem dX6_ask_11 : decode cX6_ask 11 = .ok (.ireturn, 1) := by decide +kernel
theorem dX6_ask_12 : decode cX6_ask 12 = .ok (.iconst 0, 1) := by decide +kernel
theorem dX6_ask_13 : decode cX6_ask 13 = .ok (.istore_n 2, 1) := by decide +kernel
theorem dX6_ask_14 : decode cX6_ask 14 = .ok (.iconst 0, 1) := by decide +kernel
theorem dX6_ask_15 : decode cX6_ask 15 = .ok (.istore_n 3, 1) := by decide +kernel
theorem dX6_ask_16 : decode cX6_ask 16 = .ok (.iload_n 3, 1) := by decide +kernel
theorem dX6_ask_17 : decode cX6_ask 17 = .ok (.bipush 36, 2) := by decide +kernel
theorem dX6_ask_19 : decode cX6_ask 19 = .ok (.if_icmp .ge 16, 3) := by decide +kernel
theorem dX6_ask_22 : decode cX6_ask 22 = .ok (.aload_n 0, 1) := by decide +kernel
theorem dX6_ask_23 : decode cX6_ask 23 = .ok (.getfield 50, 3) := by decide +kernel
theorem dX6_ask_26 : decode cX6_ask 26 = .ok (.iload_n 3, 1) := by decide +kernel
theorem dX6_ask_27 : decode cX6_ask 27 = .ok (.iconst 0, 1) := by decide +kernel
theorem dX6_ask_28 : decode cX6_ask 28 = .ok (.iastore, 1) := by decide +kernel
theorem dX6_ask_29 : decode cX6_ask 29 = .ok (.iinc 3 1, 3) := by decide +kernel
theorem dX6_ask_32 : decode cX6_ask 32 = .ok (.goto (-16), 3) := by decide +kernel
theorem dX6_ask_35 : decode cX6_ask 35 = .ok (.iconst 0, 1) := by decide +kernel
theorem dX6_ask_36 : decode cX6_ask 36 = .ok (.istore_n 3, 1) := by decide +kernel
theorem dX6_ask_37 : decode cX6_ask 37 = .ok (.iload_n 3, 1) := by decide +kernel
theorem dX6_ask_38 : decode cX6_ask 38 = .ok (.aload_n 0, 1) := by decide +kernel
theorem dX6_ask_39 : decode cX6_ask 39 = .ok (.invokevirtual 252, 3) := by decide +kernel
theorem dX6_ask_42 : decode cX6_ask 42 = .ok (.if_icmp .ge 98, 3) := by decide +kernel
theorem dX6_ask_45 : decode cX6_ask 45 = .ok (.aload_n 0, 1) := by decide +kernel
theorem dX6_ask_46 : decode cX6_ask 46 = .ok (.iload_n 3, 1) := by decide +kernel
theorem dX6_ask_47 : decode cX6_ask 47 = .ok (.invokevirtual 289, 3) := by decide +kernel
theorem dX6_ask_50 : decode cX6_ask 50 = .ok (.ifCond .eq 84, 3) := by decide +kernel
theorem dX6_ask_53 : decode cX6_ask 53 = .ok (.iinc 2 1, 3) := by decide +kernel
theorem dX6_ask_56 : decode cX6_ask 56 = .ok (.iconst 0, 1) := by decide +kernel
theorem dX6_ask_57 : decode cX6_ask 57 = .ok (.istore 4, 2) := by decide +kernel
theorem dX6_ask_59 : decode cX6_ask 59 = .ok (.iload 4, 2) := by decide +kernel
theorem dX6_ask_61 : decode cX6_ask 61 = .ok (.bipush 36, 2) := by decide +kernel
theorem dX6_ask_63 : decode cX6_ask 63 = .ok (.if_icmp .ge 71, 3) := by decide +kernel
theorem dX6_ask_66 : decode cX6_ask 66 = .ok (.aload_n 0, 1) := by decide +kernel
theorem dX6_ask_67 : decode cX6_ask 67 = .ok (.getfield 50, 3) := by decide +kernel
theorem dX6_ask_70 : decode cX6_ask 70 = .ok (.iload 4, 2) := by decide +kernel
theorem dX6_ask_72 : decode cX6_ask 72 = .ok (.dup2, 1) := by decide +kernel
theorem dX6_ask_73 : decode cX6_ask 73 = .ok (.iaload, 1) := by decide +kernel
theorem dX6_ask_74 : decode cX6_ask 74 = .ok (.iload 4, 2) := by decide +kernel
theorem dX6_ask_76 : decode cX6_ask 76 = .ok (.bipush 6, 2) := by decide +kernel
theorem dX6_ask_78 : decode cX6_ask 78 = .ok (.idiv, 1) := by decide +kernel
theorem dX6_ask_79 : decode cX6_ask 79 = .ok (.aload_n 0, 1) := by decide +kernel
theorem dX6_ask_80 : decode cX6_ask 80 = .ok (.getfield 13, 3) := by decide +kernel
theorem dX6_ask_83 : decode cX6_ask 83 = .ok (.if_icmp .ge 42, 3) := by decide +kernel
theorem dX6_ask_86 : decode cX6_ask 86 = .ok (.iload 4, 2) := by decide +kernel
theorem dX6_ask_88 : decode cX6_ask 88 = .ok (.bipush 6, 2) := by decide +kernel
theorem dX6_ask_90 : decode cX6_ask 90 = .ok (.irem, 1) := by decide +kernel
theorem dX6_ask_91 : decode cX6_ask 91 = .ok (.aload_n 0, 1) := by decide +kernel
theorem dX6_ask_92 : decode cX6_ask 92 = .ok (.getfield 13, 3) := by decide +kernel
theorem dX6_ask_95 : decode cX6_ask 95 = .ok (.if_icmp .ge 30, 3) := by decide +kernel
theorem dX6_ask_98 : decode cX6_ask 98 = .ok (.aload_n 0, 1) := by decide +kernel
theorem dX6_ask_99 : decode cX6_ask 99 = .ok (.getfield 44, 3) := by decide +kernel
theorem dX6_ask_102 : decode cX6_ask 102 = .ok (.iload 4, 2) := by decide +kernel
theorem dX6_ask_104 : decode cX6_ask 104 = .ok (.bipush 6, 2) := by decide +kernel
theorem dX6_ask_106 : decode cX6_ask 106 = .ok (.idiv, 1) := by decide +kernel
theorem dX6_ask_107 : decode cX6_ask 107 = .ok (.iaload, 1) := by decide +kernel
theorem dX6_ask_108 : decode cX6_ask 108 = .ok (.aload_n 0, 1) := by decide +kernel
theorem dX6_ask_109 : decode cX6_ask 109 = .ok (.getfield 44, 3) := by decide +kernel
theorem dX6_ask_112 : decode cX6_ask 112 = .ok (.iload 4, 2) := by decide +kernel
theorem dX6_ask_114 : decode cX6_ask 114 = .ok (.bipush 6, 2) := by decide +kernel
theorem dX6_ask_116 : decode cX6_ask 116 = .ok (.irem, 1) := by decide +kernel
theorem dX6_ask_117 : decode cX6_ask 117 = .ok (.iaload, 1) := by decide +kernel
theorem dX6_ask_118 : decode cX6_ask 118 = .ok (.if_icmp .ne 7, 3) := by decide +kernel
theorem dX6_ask_121 : decode cX6_ask 121 = .ok (.iconst 1, 1) := by decide +kernel
theorem dX6_ask_122 : decode cX6_ask 122 = .ok (.goto 4, 3) := by decide +kernel
theorem dX6_ask_125 : decode cX6_ask 125 = .ok (.iconst 0, 1) := by decide +kernel
theorem dX6_ask_126 : decode cX6_ask 126 = .ok (.iadd, 1) := by decide +kernel
theorem dX6_ask_127 : decode cX6_ask 127 = .ok (.iastore, 1) := by decide +kernel
theorem dX6_ask_128 : decode cX6_ask 128 = .ok (.iinc 4 1, 3) := by decide +kernel
theorem dX6_ask_131 : decode cX6_ask 131 = .ok (.goto (-72), 3) := by decide +kernel
theorem dX6_ask_134 : decode cX6_ask 134 = .ok (.iinc 3 1, 3) := by decide +kernel
theorem dX6_ask_137 : decode cX6_ask 137 = .ok (.goto (-100), 3) := by decide +kernel
theorem dX6_ask_140 : decode cX6_ask 140 = .ok (.iload_n 2, 1) := by decide +kernel
theorem dX6_ask_141 : decode cX6_ask 141 = .ok (.istore_n 3, 1) := by decide +kernel
theorem dX6_ask_142 : decode cX6_ask 142 = .ok (.bipush (-4), 2) := by decide +kernel
theorem dX6_ask_144 : decode cX6_ask 144 = .ok (.istore 4, 2) := by decide +kernel
theorem dX6_ask_146 : decode cX6_ask 146 = .ok (.iconst 0, 1) := by decide +kernel
theorem dX6_ask_147 : decode cX6_ask 147 = .ok (.istore 5, 2) := by decide +kernel
theorem dX6_ask_149 : decode cX6_ask 149 = .ok (.iload 5, 2) := by decide +kernel
theorem dX6_ask_151 : decode cX6_ask 151 = .ok (.aload_n 0, 1) := by decide +kernel
theorem dX6_ask_152 : decode cX6_ask 152 = .ok (.getfield 13, 3) := by decide +kernel
theorem dX6_ask_155 : decode cX6_ask 155 = .ok (.if_icmp .ge 99, 3) := by decide +kernel
theorem dX6_ask_158 : decode cX6_ask 158 = .ok (.iload 5, 2) := by decide +kernel
theorem dX6_ask_160 : decode cX6_ask 160 = .ok (.iconst 1, 1) := by decide +kernel
theorem dX6_ask_161 : decode cX6_ask 161 = .ok (.iadd, 1) := by decide +kernel
theorem dX6_ask_162 : decode cX6_ask 162 = .ok (.istore 6, 2) := by decide +kernel
theorem dX6_ask_164 : decode cX6_ask 164 = .ok (.iload 6, 2) := by decide +kernel
theorem dX6_ask_166 : decode cX6_ask 166 = .ok (.aload_n 0, 1) := by decide +kernel
theorem dX6_ask_167 : decode cX6_ask 167 = .ok (.getfield 13, 3) := by decide +kernel
theorem dX6_ask_170 : decode cX6_ask 170 = .ok (.if_icmp .ge 78, 3) := by decide +kernel
theorem dX6_ask_173 : decode cX6_ask 173 = .ok (.aload_n 0, 1) := by decide +kernel
theorem dX6_ask_174 : decode cX6_ask 174 = .ok (.getfield 50, 3) := by decide +kernel
theorem dX6_ask_177 : decode cX6_ask 177 = .ok (.bipush 6, 2) := by decide +kernel
theorem dX6_ask_179 : decode cX6_ask 179 = .ok (.iload 5, 2) := by decide +kernel
theorem dX6_ask_181 : decode cX6_ask 181 = .ok (.imul, 1) := by decide +kernel
theorem dX6_ask_182 : decode cX6_ask 182 = .ok (.iload 6, 2) := by decide +kernel
theorem dX6_ask_184 : decode cX6_ask 184 = .ok (.iadd, 1) := by decide +kernel
theorem dX6_ask_185 : decode cX6_ask 185 = .ok (.iaload, 1) := by decide +kernel
theorem dX6_ask_186 : decode cX6_ask 186 = .ok (.istore 7, 2) := by decide +kernel
theorem dX6_ask_188 : decode cX6_ask 188 = .ok (.iload 7, 2) := by decide +kernel
theorem dX6_ask_190 : decode cX6_ask 190 = .ok (.iload_n 2, 1) := by decide +kernel
theorem dX6_ask_191 : decode cX6_ask 191 = .ok (.iload 7, 2) := by decide +kernel
theorem dX6_ask_193 : decode cX6_ask 193 = .ok (.isub, 1) := by decide +kernel
theorem dX6_ask_194 : decode cX6_ask 194 = .ok (.if_icmp .le 8, 3) := by decide +kernel
theorem dX6_ask_197 : decode cX6_ask 197 = .ok (.iload 7, 2) := by decide +kernel
theorem dX6_ask_199 : decode cX6_ask 199 = .ok (.goto 7, 3) := by decide +kernel
theorem dX6_ask_202 : decode cX6_ask 202 = .ok (.iload_n 2, 1) := by decide +kernel
theorem dX6_ask_203 : decode cX6_ask 203 = .ok (.iload 7, 2) := by decide +kernel
theorem dX6_ask_205 : decode cX6_ask 205 = .ok (.isub, 1) := by decide +kernel
theorem dX6_ask_206 : decode cX6_ask 206 = .ok (.istore 8, 2) := by decide +kernel
theorem dX6_ask_208 : decode cX6_ask 208 = .ok (.iload 8, 2) := by decide +kernel
theorem dX6_ask_210 : decode cX6_ask 210 = .ok (.iload_n 3, 1) := by decide +kernel
theorem dX6_ask_211 : decode cX6_ask 211 = .ok (.if_icmp .ge 14, 3) := by decide +kernel
theorem dX6_ask_214 : decode cX6_ask 214 = .ok (.bipush 10, 2) := by decide +kernel
theorem dX6_ask_216 : decode cX6_ask 216 = .ok (.iload 5, 2) := by decide +kernel
theorem dX6_ask_218 : decode cX6_ask 218 = .ok (.imul, 1) := by decide +kernel
theorem dX6_ask_219 : decode cX6_ask 219 = .ok (.iload 6, 2) := by decide +kernel
theorem dX6_ask_221 : decode cX6_ask 221 = .ok (.iadd, 1) := by decide +kernel
theorem dX6_ask_222 : decode cX6_ask 222 = .ok (.goto 5, 3) := by decide +kernel
theorem dX6_ask_225 : decode cX6_ask 225 = .ok (.iload 4, 2) := by decide +kernel
theorem dX6_ask_227 : decode cX6_ask 227 = .ok (.istore 4, 2) := by decide +kernel
theorem dX6_ask_229 : decode cX6_ask 229 = .ok (.iload 8, 2) := by decide +kernel
theorem dX6_ask_231 : decode cX6_ask 231 = .ok (.iload_n 3, 1) := by decide +kernel
theorem dX6_ask_232 : decode cX6_ask 232 = .ok (.if_icmp .ge 8, 3) := by decide +kernel
theorem dX6_ask_235 : decode cX6_ask 235 = .ok (.iload 8, 2) := by decide +kernel
theorem dX6_ask_237 : decode cX6_ask 237 = .ok (.goto 4, 3) := by decide +kernel
theorem dX6_ask_240 : decode cX6_ask 240 = .ok (.iload_n 3, 1) := by decide +kernel
theorem dX6_ask_241 : decode cX6_ask 241 = .ok (.istore_n 3, 1) := by decide +kernel
theorem dX6_ask_242 : decode cX6_ask 242 = .ok (.iinc 6 1, 3) := by decide +kernel
theorem dX6_ask_245 : decode cX6_ask 245 = .ok (.goto (-81), 3) := by decide +kernel
theorem dX6_ask_248 : decode cX6_ask 248 = .ok (.iinc 5 1, 3) := by decide +kernel
theorem dX6_ask_251 : decode cX6_ask 251 = .ok (.goto (-102), 3) := by decide +kernel
theorem dX6_ask_254 : decode cX6_ask 254 = .ok (.iload 4, 2) := by decide +kernel
theorem dX6_ask_256 : decode cX6_ask 256 = .ok (.bipush (-4), 2) := by decide +kernel
theorem dX6_ask_258 : decode cX6_ask 258 = .ok (.if_icmp .eq 7, 3) := by decide +kernel
theorem dX6_ask_261 : decode cX6_ask 261 = .ok (.iload_n 1, 1) := by decide +kernel
theorem dX6_ask_262 : decode cX6_ask 262 = .ok (.ifCond .ne 8, 3) := by decide +kernel
theorem dX6_ask_265 : decode cX6_ask 265 = .ok (.iload 4, 2) := by decide +kernel
theorem dX6_ask_267 : decode cX6_ask 267 = .ok (.goto 4, 3) := by decide +kernel
theorem dX6_ask_270 : decode cX6_ask 270 = .ok (.iload_n 3, 1) := by decide +kernel
theorem dX6_ask_271 : decode cX6_ask 271 = .ok (.ireturn, 1) := by decide +kernel
theorem dX6_draws_0 : decode cX6_draws 0 = .ok (.aload_n 0, 1) := by decide +kernel
theorem dX6_draws_1 : decode cX6_draws 1 = .ok (.aload_n 0, 1) := by decide +kernel
theorem dX6_draws_2 : decode cX6_draws 2 = .ok (.getfield 292, 3) := by decide +kernel
theorem dX6_draws_5 : decode cX6_draws 5 = .ok (.ldc_w 295, 3) := by decide +kernel
theorem dX6_draws_8 : decode cX6_draws 8 = .ok (.imul, 1) := by decide +kernel
theorem dX6_draws_9 : decode cX6_draws 9 = .ok (.sipush 12345, 3) := by decide +kernel
theorem dX6_draws_12 : decode cX6_draws 12 = .ok (.iadd, 1) := by decide +kernel
theorem dX6_draws_13 : decode cX6_draws 13 = .ok (.putfield 292, 3) := by decide +kernel
theorem dX6_draws_16 : decode cX6_draws 16 = .ok (.aload_n 0, 1) := by decide +kernel
theorem dX6_draws_17 : decode cX6_draws 17 = .ok (.getfield 292, 3) := by decide +kernel
theorem dX6_draws_20 : decode cX6_draws 20 = .ok (.bipush 16, 2) := by decide +kernel
theorem dX6_draws_22 : decode cX6_draws 22 = .ok (.ishr, 1) := by decide +kernel
theorem dX6_draws_23 : decode cX6_draws 23 = .ok (.sipush 32767, 3) := by decide +kernel
theorem dX6_draws_26 : decode cX6_draws 26 = .ok (.iand, 1) := by decide +kernel
theorem dX6_draws_27 : decode cX6_draws 27 = .ok (.iload_n 1, 1) := by decide +kernel
theorem dX6_draws_28 : decode cX6_draws 28 = .ok (.irem, 1) := by decide +kernel
theorem dX6_draws_29 : decode cX6_draws 29 = .ok (.ireturn, 1) := by decide +kernel
theorem dX6_drift_0 : decode cX6_drift 0 = .ok (.iload_n 2, 1) := by decide +kernel
theorem dX6_drift_1 : decode cX6_drift 1 = .ok (.i2l, 1) := by decide +kernel
theorem dX6_drift_2 : decode cX6_drift 2 = .ok (.lconst 1, 1) := by decide +kernel
theorem dX6_drift_3 : decode cX6_drift 3 = .ok (.ldc2_w 243, 3) := by decide +kernel
theorem dX6_drift_6 : decode cX6_drift 6 = .ok (.invokestatic 68, 3) := by decide +kernel
theorem dX6_drift_9 : decode cX6_drift 9 = .ok (.ifCond .eq 13, 3) := by decide +kernel
theorem dX6_drift_12 : decode cX6_drift 12 = .ok (.iload_n 3, 1) := by decide +kernel
theorem dX6_drift_13 : decode cX6_drift 13 = .ok (.i2l, 1) := by decide +kernel
theorem dX6_drift_14 : decode cX6_drift 14 = .ok (.lconst 0, 1) := by decide +kernel
theorem dX6_drift_15 : decode cX6_drift 15 = .ok (.lconst 1, 1) := by decide +kernel
theorem dX6_drift_16 : decode cX6_drift 16 = .ok (.invokestatic 68, 3) := by decide +kernel
theorem dX6_drift_19 : decode cX6_drift 19 = .ok (.ifCond .ne 5, 3) := by decide +kernel
theorem dX6_drift_22 : decode cX6_drift 22 = .ok (.iconst (-1), 1) := by decide +kernel
theorem dX6_drift_23 : decode cX6_drift 23 = .ok (.ireturn, 1) := by decide +kernel
theorem dX6_drift_24 : decode cX6_drift 24 = .ok (.aload_n 0, 1) := by decide +kernel
theorem dX6_drift_25 : decode cX6_drift 25 = .ok (.getfield 182, 3) := by decide +kernel
theorem dX6_drift_28 : decode cX6_drift 28 = .ok (.ifCond .ne 6, 3) := by decide +kernel
theorem dX6_drift_31 : decode cX6_drift 31 = .ok (.bipush (-2), 2) := by decide +kernel
theorem dX6_drift_33 : decode cX6_drift 33 = .ok (.ireturn, 1) := by decide +kernel
theorem dX6_drift_34 : decode cX6_drift 34 = .ok (.aload_n 0, 1) := by decide +kernel
theorem dX6_drift_35 : decode cX6_drift 35 = .ok (.iconst 0, 1) := by decide +kernel
theorem dX6_drift_36 : decode cX6_drift 36 = .ok (.sipush 252, 3) := by decide +kernel
theorem dX6_drift_39 : decode cX6_drift 39 = .ok (.invokevirtual 248, 3) := by decide +kernel
theorem dX6_drift_42 : decode cX6_drift 42 = .ok (.aload_n 0, 1) := by decide +kernel
theorem dX6_drift_43 : decode cX6_drift 43 = .ok (.iload_n 1, 1) := by decide +kernel
theorem dX6_drift_44 : decode cX6_drift 44 = .ok (.putfield 292, 3) := by decide +kernel
theorem dX6_drift_47 : decode cX6_drift 47 = .ok (.iconst 0, 1) := by decide +kernel
theorem dX6_drift_48 : decode cX6_drift 48 = .ok (.istore 4, 2) := by decide +kernel
theorem dX6_drift_50 : decode cX6_drift 50 = .ok (.iload 4, 2) := by decide +kernel
theorem dX6_drift_52 : decode cX6_drift 52 = .ok (.iload_n 2, 1) := by decide +kernel
theorem dX6_drift_53 : decode cX6_drift 53 = .ok (.if_icmp .ge 36, 3) := by decide +kernel
theorem dX6_drift_56 : decode cX6_drift 56 = .ok (.aload_n 0, 1) := by decide +kernel
theorem dX6_drift_57 : decode cX6_drift 57 = .ok (.aload_n 0, 1) := by decide +kernel
theorem dX6_drift_58 : decode cX6_drift 58 = .ok (.getfield 13, 3) := by decide +kernel
theorem dX6_drift_61 : decode cX6_drift 61 = .ok (.invokevirtual 296, 3) := by decide +kernel
theorem dX6_drift_64 : decode cX6_drift 64 = .ok (.istore 5, 2) := by decide +kernel
theorem dX6_drift_66 : decode cX6_drift 66 = .ok (.aload_n 0, 1) := by decide +kernel
theorem dX6_drift_67 : decode cX6_drift 67 = .ok (.sipush 252, 3) := by decide +kernel
theorem dX6_drift_70 : decode cX6_drift 70 = .ok (.iload 5, 2) := by decide +kernel
theorem dX6_drift_72 : decode cX6_drift 72 = .ok (.aload_n 0, 1) := by decide +kernel
theorem dX6_drift_73 : decode cX6_drift 73 = .ok (.aload_n 0, 1) := by decide +kernel
theorem dX6_drift_74 : decode cX6_drift 74 = .ok (.getfield 182, 3) := by decide +kernel
theorem dX6_drift_77 : decode cX6_drift 77 = .ok (.invokevirtual 296, 3) := by decide +kernel
theorem dX6_drift_80 : decode cX6_drift 80 = .ok (.invokevirtual 225, 3) := by decide +kernel
theorem dX6_drift_83 : decode cX6_drift 83 = .ok (.iinc 4 1, 3) := by decide +kernel
theorem dX6_drift_86 : decode cX6_drift 86 = .ok (.goto (-36), 3) := by decide +kernel
theorem dX6_drift_89 : decode cX6_drift 89 = .ok (.iload_n 3, 1) := by decide +kernel
theorem dX6_drift_90 : decode cX6_drift 90 = .ok (.ifCond .ne 21, 3) := by decide +kernel
theorem dX6_drift_93 : decode cX6_drift 93 = .ok (.aload_n 0, 1) := by decide +kernel
theorem dX6_drift_94 : decode cX6_drift 94 = .ok (.sipush 252, 3) := by decide +kernel
theorem dX6_drift_97 : decode cX6_drift 97 = .ok (.iconst 1, 1) := by decide +kernel
theorem dX6_drift_98 : decode cX6_drift 98 = .ok (.aload_n 0, 1) := by decide +kernel
theorem dX6_drift_99 : decode cX6_drift 99 = .ok (.getfield 182, 3) := by decide +kernel
theorem dX6_drift_102 : decode cX6_drift 102 = .ok (.ishl, 1) := by decide +kernel
theorem dX6_drift_103 : decode cX6_drift 103 = .ok (.iconst 1, 1) := by decide +kernel
theorem dX6_drift_104 : decode cX6_drift 104 = .ok (.isub, 1) := by decide +kernel
theorem dX6_drift_105 : decode cX6_drift 105 = .ok (.invokevirtual 267, 3) := by decide +kernel
theorem dX6_drift_108 : decode cX6_drift 108 = .ok (.goto 10, 3) := by decide +kernel
theorem dX6_drift_111 : decode cX6_drift 111 = .ok (.aload_n 0, 1) := by decide +kernel
theorem dX6_drift_112 : decode cX6_drift 112 = .ok (.sipush 252, 3) := by decide +kernel
theorem dX6_drift_115 : decode cX6_drift 115 = .ok (.invokevirtual 264, 3) := by decide +kernel
theorem dX6_drift_118 : decode cX6_drift 118 = .ok (.ireturn, 1) := by decide +kernel
theorem dX6_keep_0 : decode cX6_keep 0 = .ok (.iload_n 1, 1) := by decide +kernel
theorem dX6_keep_1 : decode cX6_keep 1 = .ok (.i2l, 1) := by decide +kernel
theorem dX6_keep_2 : decode cX6_keep 2 = .ok (.lconst 0, 1) := by decide +kernel
theorem dX6_keep_3 : decode cX6_keep 3 = .ok (.lconst 1, 1) := by decide +kernel
theorem dX6_keep_4 : decode cX6_keep 4 = .ok (.invokestatic 68, 3) := by decide +kernel
theorem dX6_keep_7 : decode cX6_keep 7 = .ok (.ifCond .ne 5, 3) := by decide +kernel
theorem dX6_keep_10 : decode cX6_keep 10 = .ok (.iconst (-1), 1) := by decide +kernel
theorem dX6_keep_11 : decode cX6_keep 11 = .ok (.ireturn, 1) := by decide +kernel
theorem dX6_keep_12 : decode cX6_keep 12 = .ok (.aload_n 0, 1) := by decide +kernel
theorem dX6_keep_13 : decode cX6_keep 13 = .ok (.iconst 0, 1) := by decide +kernel
theorem dX6_keep_14 : decode cX6_keep 14 = .ok (.bipush 63, 2) := by decide +kernel
theorem dX6_keep_16 : decode cX6_keep 16 = .ok (.iload_n 1, 1) := by decide +kernel
theorem dX6_keep_17 : decode cX6_keep 17 = .ok (.iconst 1, 1) := by decide +kernel
theorem dX6_keep_18 : decode cX6_keep 18 = .ok (.iadd, 1) := by decide +kernel
theorem dX6_keep_19 : decode cX6_keep 19 = .ok (.imul, 1) := by decide +kernel
theorem dX6_keep_20 : decode cX6_keep 20 = .ok (.invokevirtual 248, 3) := by decide +kernel
theorem dX6_keep_23 : decode cX6_keep 23 = .ok (.aload_n 0, 1) := by decide +kernel
theorem dX6_keep_24 : decode cX6_keep 24 = .ok (.getfield 53, 3) := by decide +kernel
theorem dX6_keep_27 : decode cX6_keep 27 = .ok (.iload_n 1, 1) := by decide +kernel
theorem dX6_keep_28 : decode cX6_keep 28 = .ok (.baload, 1) := by decide +kernel
theorem dX6_keep_29 : decode cX6_keep 29 = .ok (.ifCond .eq 7, 3) := by decide +kernel
theorem dX6_keep_32 : decode cX6_keep 32 = .ok (.iconst 1, 1) := by decide +kernel
theorem dX6_keep_33 : decode cX6_keep 33 = .ok (.goto 4, 3) := by decide +kernel
theorem dX6_keep_36 : decode cX6_keep 36 = .ok (.iconst 0, 1) := by decide +kernel
theorem dX6_keep_37 : decode cX6_keep 37 = .ok (.istore_n 2, 1) := by decide +kernel
theorem dX6_keep_38 : decode cX6_keep 38 = .ok (.aload_n 0, 1) := by decide +kernel
theorem dX6_keep_39 : decode cX6_keep 39 = .ok (.getfield 53, 3) := by decide +kernel
theorem dX6_keep_42 : decode cX6_keep 42 = .ok (.iload_n 1, 1) := by decide +kernel
theorem dX6_keep_43 : decode cX6_keep 43 = .ok (.iconst 1, 1) := by decide +kernel
theorem dX6_keep_44 : decode cX6_keep 44 = .ok (.bastore, 1) := by decide +kernel
theorem dX6_keep_45 : decode cX6_keep 45 = .ok (.iload_n 2, 1) := by decide +kernel
theorem dX6_keep_46 : decode cX6_keep 46 = .ok (.ireturn, 1) := by decide +kernel
theorem dX6_back_0 : decode cX6_back 0 = .ok (.iload_n 1, 1) := by decide +kernel
theorem dX6_back_1 : decode cX6_back 1 = .ok (.i2l, 1) := by decide +kernel
theorem dX6_back_2 : decode cX6_back 2 = .ok (.lconst 0, 1) := by decide +kernel
theorem dX6_back_3 : decode cX6_back 3 = .ok (.lconst 1, 1) := by decide +kernel
theorem dX6_back_4 : decode cX6_back 4 = .ok (.invokestatic 68, 3) := by decide +kernel
theorem dX6_back_7 : decode cX6_back 7 = .ok (.ifCond .ne 5, 3) := by decide +kernel
theorem dX6_back_10 : decode cX6_back 10 = .ok (.iconst (-1), 1) := by decide +kernel
theorem dX6_back_11 : decode cX6_back 11 = .ok (.ireturn, 1) := by decide +kernel
theorem dX6_back_12 : decode cX6_back 12 = .ok (.aload_n 0, 1) := by decide +kernel
theorem dX6_back_13 : decode cX6_back 13 = .ok (.getfield 53, 3) := by decide +kernel
theorem dX6_back_16 : decode cX6_back 16 = .ok (.iload_n 1, 1) := by decide +kernel
theorem dX6_back_17 : decode cX6_back 17 = .ok (.baload, 1) := by decide +kernel
theorem dX6_back_18 : decode cX6_back 18 = .ok (.ifCond .ne 6, 3) := by decide +kernel
theorem dX6_back_21 : decode cX6_back 21 = .ok (.bipush (-2), 2) := by decide +kernel
theorem dX6_back_23 : decode cX6_back 23 = .ok (.ireturn, 1) := by decide +kernel
theorem dX6_back_24 : decode cX6_back 24 = .ok (.aload_n 0, 1) := by decide +kernel
theorem dX6_back_25 : decode cX6_back 25 = .ok (.bipush 63, 2) := by decide +kernel
theorem dX6_back_27 : decode cX6_back 27 = .ok (.iload_n 1, 1) := by decide +kernel
theorem dX6_back_28 : decode cX6_back 28 = .ok (.iconst 1, 1) := by decide +kernel
theorem dX6_back_29 : decode cX6_back 29 = .ok (.iadd, 1) := by decide +kernel
theorem dX6_back_30 : decode cX6_back 30 = .ok (.imul, 1) := by decide +kernel
theorem dX6_back_31 : decode cX6_back 31 = .ok (.iconst 0, 1) := by decide +kernel
theorem dX6_back_32 : decode cX6_back 32 = .ok (.invokevirtual 248, 3) := by decide +kernel
theorem dX6_back_35 : decode cX6_back 35 = .ok (.aload_n 0, 1) := by decide +kernel
theorem dX6_back_36 : decode cX6_back 36 = .ok (.getfield 7, 3) := by decide +kernel
theorem dX6_back_39 : decode cX6_back 39 = .ok (.bipush 61, 2) := by decide +kernel
theorem dX6_back_41 : decode cX6_back 41 = .ok (.iaload, 1) := by decide +kernel
theorem dX6_back_42 : decode cX6_back 42 = .ok (.ireturn, 1) := by decide +kernel
theorem dX6_sheet_0 : decode cX6_sheet 0 = .ok (.iload_n 1, 1) := by decide +kernel
theorem dX6_sheet_1 : decode cX6_sheet 1 = .ok (.i2l, 1) := by decide +kernel
theorem dX6_sheet_2 : decode cX6_sheet 2 = .ok (.lconst 0, 1) := by decide +kernel
theorem dX6_sheet_3 : decode cX6_sheet 3 = .ok (.ldc2_w 232, 3) := by decide +kernel
theorem dX6_sheet_6 : decode cX6_sheet 6 = .ok (.invokestatic 68, 3) := by decide +kernel
theorem dX6_sheet_9 : decode cX6_sheet 9 = .ok (.ifCond .eq 21, 3) := by decide +kernel
theorem dX6_sheet_12 : decode cX6_sheet 12 = .ok (.iload_n 2, 1) := by decide +kernel
theorem dX6_sheet_13 : decode cX6_sheet 13 = .ok (.i2l, 1) := by decide +kernel
theorem dX6_sheet_14 : decode cX6_sheet 14 = .ok (.lconst 0, 1) := by decide +kernel
theorem dX6_sheet_15 : decode cX6_sheet 15 = .ok (.ldc2_w 223, 3) := by decide +kernel
theorem dX6_sheet_18 : decode cX6_sheet 18 = .ok (.invokestatic 68, 3) := by decide +kernel
theorem dX6_sheet_21 : decode cX6_sheet 21 = .ok (.ifCond .eq 9, 3) := by decide +kernel
theorem dX6_sheet_24 : decode cX6_sheet 24 = .ok (.iload_n 3, 1) := by decide +kernel
theorem dX6_sheet_25 : decode cX6_sheet 25 = .ok (.bipush 40, 2) := by decide +kernel
theorem dX6_sheet_27 : decode cX6_sheet 27 = .ok (.if_icmp .le 5, 3) := by decide +kernel
theorem dX6_sheet_30 : decode cX6_sheet 30 = .ok (.iconst (-1), 1) := by decide +kernel
theorem dX6_sheet_31 : decode cX6_sheet 31 = .ok (.ireturn, 1) := by decide +kernel
theorem dX6_sheet_32 : decode cX6_sheet 32 = .ok (.iload_n 3, 1) := by decide +kernel
theorem dX6_sheet_33 : decode cX6_sheet 33 = .ok (.ifCond .ge 6, 3) := by decide +kernel
theorem dX6_sheet_36 : decode cX6_sheet 36 = .ok (.bipush (-14), 2) := by decide +kernel
theorem dX6_sheet_38 : decode cX6_sheet 38 = .ok (.ireturn, 1) := by decide +kernel
theorem dX6_sheet_39 : decode cX6_sheet 39 = .ok (.aload_n 0, 1) := by decide +kernel
theorem dX6_sheet_40 : decode cX6_sheet 40 = .ok (.getfield 57, 3) := by decide +kernel
theorem dX6_sheet_43 : decode cX6_sheet 43 = .ok (.iload_n 1, 1) := by decide +kernel
theorem dX6_sheet_44 : decode cX6_sheet 44 = .ok (.iload_n 2, 1) := by decide +kernel
theorem dX6_sheet_45 : decode cX6_sheet 45 = .ok (.iastore, 1) := by decide +kernel
theorem dX6_sheet_46 : decode cX6_sheet 46 = .ok (.aload_n 0, 1) := by decide +kernel
theorem dX6_sheet_47 : decode cX6_sheet 47 = .ok (.getfield 60, 3) := by decide +kernel
theorem dX6_sheet_50 : decode cX6_sheet 50 = .ok (.iload_n 1, 1) := by decide +kernel
theorem dX6_sheet_51 : decode cX6_sheet 51 = .ok (.iload_n 3, 1) := by decide +kernel
theorem dX6_sheet_52 : decode cX6_sheet 52 = .ok (.iastore, 1) := by decide +kernel
theorem dX6_sheet_53 : decode cX6_sheet 53 = .ok (.iconst 0, 1) := by decide +kernel
theorem dX6_sheet_54 : decode cX6_sheet 54 = .ok (.istore 4, 2) := by decide +kernel
theorem dX6_sheet_56 : decode cX6_sheet 56 = .ok (.iload 4, 2) := by decide +kernel
theorem dX6_sheet_58 : decode cX6_sheet 58 = .ok (.bipush 40, 2) := by decide +kernel
theorem dX6_sheet_60 : decode cX6_sheet 60 = .ok (.if_icmp .ge 22, 3) := by decide +kernel
theorem dX6_sheet_63 : decode cX6_sheet 63 = .ok (.aload_n 0, 1) := by decide +kernel
theorem dX6_sheet_64 : decode cX6_sheet 64 = .ok (.getfield 63, 3) := by decide +kernel
theorem dX6_sheet_67 : decode cX6_sheet 67 = .ok (.bipush 40, 2) := by decide +kernel
theorem dX6_sheet_69 : decode cX6_sheet 69 = .ok (.iload_n 1, 1) := by decide +kernel
theorem dX6_sheet_70 : decode cX6_sheet 70 = .ok (.imul, 1) := by decide +kernel
theorem dX6_sheet_71 : decode cX6_sheet 71 = .ok (.iload 4, 2) := by decide +kernel
theorem dX6_sheet_73 : decode cX6_sheet 73 = .ok (.iadd, 1) := by decide +kernel
theorem dX6_sheet_74 : decode cX6_sheet 74 = .ok (.iconst 0, 1) := by decide +kernel
theorem dX6_sheet_75 : decode cX6_sheet 75 = .ok (.iastore, 1) := by decide +kernel
theorem dX6_sheet_76 : decode cX6_sheet 76 = .ok (.iinc 4 1, 3) := by decide +kernel
theorem dX6_sheet_79 : decode cX6_sheet 79 = .ok (.goto (-23), 3) := by decide +kernel
theorem dX6_sheet_82 : decode cX6_sheet 82 = .ok (.iconst 1, 1) := by decide +kernel
theorem dX6_sheet_83 : decode cX6_sheet 83 = .ok (.ireturn, 1) := by decide +kernel
theorem dX6_lay_0 : decode cX6_lay 0 = .ok (.iload_n 1, 1) := by decide +kernel
theorem dX6_lay_1 : decode cX6_lay 1 = .ok (.i2l, 1) := by decide +kernel
theorem dX6_lay_2 : decode cX6_lay 2 = .ok (.lconst 0, 1) := by decide +kernel
theorem dX6_lay_3 : decode cX6_lay 3 = .ok (.ldc2_w 232, 3) := by decide +kernel
theorem dX6_lay_6 : decode cX6_lay 6 = .ok (.invokestatic 68, 3) := by decide +kernel
theorem dX6_lay_9 : decode cX6_lay 9 = .ok (.ifCond .ne 5, 3) := by decide +kernel
theorem dX6_lay_12 : decode cX6_lay 12 = .ok (.iconst (-1), 1) := by decide +kernel
theorem dX6_lay_13 : decode cX6_lay 13 = .ok (.ireturn, 1) := by decide +kernel
theorem dX6_lay_14 : decode cX6_lay 14 = .ok (.aload_n 0, 1) := by decide +kernel
theorem dX6_lay_15 : decode cX6_lay 15 = .ok (.getfield 57, 3) := by decide +kernel
theorem dX6_lay_18 : decode cX6_lay 18 = .ok (.iload_n 1, 1) := by decide +kernel
theorem dX6_lay_19 : decode cX6_lay 19 = .ok (.iaload, 1) := by decide +kernel
theorem dX6_lay_20 : decode cX6_lay 20 = .ok (.bipush (-4), 2) := by decide +kernel
theorem dX6_lay_22 : decode cX6_lay 22 = .ok (.if_icmp .ne 6, 3) := by decide +kernel
theorem dX6_lay_25 : decode cX6_lay 25 = .ok (.bipush (-11), 2) := by decide +kernel
theorem dX6_lay_27 : decode cX6_lay 27 = .ok (.ireturn, 1) := by decide +kernel
theorem dX6_lay_28 : decode cX6_lay 28 = .ok (.iload_n 2, 1) := by decide +kernel
theorem dX6_lay_29 : decode cX6_lay 29 = .ok (.i2l, 1) := by decide +kernel
theorem dX6_lay_30 : decode cX6_lay 30 = .ok (.lconst 0, 1) := by decide +kernel
theorem dX6_lay_31 : decode cX6_lay 31 = .ok (.aload_n 0, 1) := by decide +kernel
theorem dX6_lay_32 : decode cX6_lay 32 = .ok (.getfield 60, 3) := by decide +kernel
theorem dX6_lay_35 : decode cX6_lay 35 = .ok (.iload_n 1, 1) := by decide +kernel
theorem dX6_lay_36 : decode cX6_lay 36 = .ok (.iaload, 1) := by decide +kernel
theorem dX6_lay_37 : decode cX6_lay 37 = .ok (.iconst 1, 1) := by decide +kernel
theorem dX6_lay_38 : decode cX6_lay 38 = .ok (.isub, 1) := by decide +kernel
theorem dX6_lay_39 : decode cX6_lay 39 = .ok (.i2l, 1) := by decide +kernel
theorem dX6_lay_40 : decode cX6_lay 40 = .ok (.invokestatic 68, 3) := by decide +kernel
theorem dX6_lay_43 : decode cX6_lay 43 = .ok (.ifCond .ne 6, 3) := by decide +kernel
theorem dX6_lay_46 : decode cX6_lay 46 = .ok (.bipush (-12), 2) := by decide +kernel
theorem dX6_lay_48 : decode cX6_lay 48 = .ok (.ireturn, 1) := by decide +kernel
theorem dX6_lay_49 : decode cX6_lay 49 = .ok (.aload_n 0, 1) := by decide +kernel
theorem dX6_lay_50 : decode cX6_lay 50 = .ok (.getfield 63, 3) := by decide +kernel
theorem dX6_lay_53 : decode cX6_lay 53 = .ok (.bipush 40, 2) := by decide +kernel
theorem dX6_lay_55 : decode cX6_lay 55 = .ok (.iload_n 1, 1) := by decide +kernel
theorem dX6_lay_56 : decode cX6_lay 56 = .ok (.imul, 1) := by decide +kernel
theorem dX6_lay_57 : decode cX6_lay 57 = .ok (.iload_n 2, 1) := by decide +kernel
theorem dX6_lay_58 : decode cX6_lay 58 = .ok (.iadd, 1) := by decide +kernel
theorem dX6_lay_59 : decode cX6_lay 59 = .ok (.aload_n 0, 1) := by decide +kernel
theorem dX6_lay_60 : decode cX6_lay 60 = .ok (.getfield 57, 3) := by decide +kernel
theorem dX6_lay_63 : decode cX6_lay 63 = .ok (.iload_n 1, 1) := by decide +kernel
theorem dX6_lay_64 : decode cX6_lay 64 = .ok (.iaload, 1) := by decide +kernel
theorem dX6_lay_65 : decode cX6_lay 65 = .ok (.ifCond .ne 13, 3) := by decide +kernel
theorem dX6_lay_68 : decode cX6_lay 68 = .ok (.iload_n 3, 1) := by decide +kernel
theorem dX6_lay_69 : decode cX6_lay 69 = .ok (.bipush 24, 2) := by decide +kernel
theorem dX6_lay_71 : decode cX6_lay 71 = .ok (.ishl, 1) := by decide +kernel
theorem dX6_lay_72 : decode cX6_lay 72 = .ok (.bipush 24, 2) := by decide +kernel
theorem dX6_lay_74 : decode cX6_lay 74 = .ok (.ishr, 1) := by decide +kernel
theorem dX6_lay_75 : decode cX6_lay 75 = .ok (.goto 24, 3) := by decide +kernel
theorem dX6_lay_78 : decode cX6_lay 78 = .ok (.aload_n 0, 1) := by decide +kernel
theorem dX6_lay_79 : decode cX6_lay 79 = .ok (.getfield 57, 3) := by decide +kernel
theorem dX6_lay_82 : decode cX6_lay 82 = .ok (.iload_n 1, 1) := by decide +kernel
theorem dX6_lay_83 : decode cX6_lay 83 = .ok (.iaload, 1) := by decide +kernel
theorem dX6_lay_84 : decode cX6_lay 84 = .ok (.iconst 1, 1) := by decide +kernel
theorem dX6_lay_85 : decode cX6_lay 85 = .ok (.if_icmp .ne 13, 3) := by decide +kernel
theorem dX6_lay_88 : decode cX6_lay 88 = .ok (.iload_n 3, 1) := by decide +kernel
theorem dX6_lay_89 : decode cX6_lay 89 = .ok (.bipush 16, 2) := by decide +kernel
theorem dX6_lay_91 : decode cX6_lay 91 = .ok (.ishl, 1) := by decide +kernel
theorem dX6_lay_92 : decode cX6_lay 92 = .ok (.bipush 16, 2) := by decide +kernel
theorem dX6_lay_94 : decode cX6_lay 94 = .ok (.ishr, 1) := by decide +kernel
theorem dX6_lay_95 : decode cX6_lay 95 = .ok (.goto 4, 3) := by decide +kernel
theorem dX6_lay_98 : decode cX6_lay 98 = .ok (.iload_n 3, 1) := by decide +kernel
theorem dX6_lay_99 : decode cX6_lay 99 = .ok (.iastore, 1) := by decide +kernel
theorem dX6_lay_100 : decode cX6_lay 100 = .ok (.iconst 1, 1) := by decide +kernel
theorem dX6_lay_101 : decode cX6_lay 101 = .ok (.ireturn, 1) := by decide +kernel
theorem dX6_read_0 : decode cX6_read 0 = .ok (.iload_n 1, 1) := by decide +kernel
theorem dX6_read_1 : decode cX6_read 1 = .ok (.i2l, 1) := by decide +kernel
theorem dX6_read_2 : decode cX6_read 2 = .ok (.lconst 0, 1) := by decide +kernel
theorem dX6_read_3 : decode cX6_read 3 = .ok (.ldc2_w 232, 3) := by decide +kernel
theorem dX6_read_6 : decode cX6_read 6 = .ok (.invokestatic 68, 3) := by decide +kernel
theorem dX6_read_9 : decode cX6_read 9 = .ok (.ifCond .eq 28, 3) := by decide +kernel
theorem dX6_read_12 : decode cX6_read 12 = .ok (.iload_n 2, 1) := by decide +kernel
theorem dX6_read_13 : decode cX6_read 13 = .ok (.i2l, 1) := by decide +kernel
theorem dX6_read_14 : decode cX6_read 14 = .ok (.lconst 0, 1) := by decide +kernel
theorem dX6_read_15 : decode cX6_read 15 = .ok (.ldc2_w 223, 3) := by decide +kernel
theorem dX6_read_18 : decode cX6_read 18 = .ok (.invokestatic 68, 3) := by decide +kernel
theorem dX6_read_21 : decode cX6_read 21 = .ok (.ifCond .eq 16, 3) := by decide +kernel
theorem dX6_read_24 : decode cX6_read 24 = .ok (.iload 4, 2) := by decide +kernel
theorem dX6_read_26 : decode cX6_read 26 = .ok (.i2l, 1) := by decide +kernel
theorem dX6_read_27 : decode cX6_read 27 = .ok (.lconst 0, 1) := by decide +kernel
theorem dX6_read_28 : decode cX6_read 28 = .ok (.ldc2_w 299, 3) := by decide +kernel
theorem dX6_read_31 : decode cX6_read 31 = .ok (.invokestatic 68, 3) := by decide +kernel
theorem dX6_read_34 : decode cX6_read 34 = .ok (.ifCond .ne 5, 3) := by decide +kernel
theorem dX6_read_37 : decode cX6_read 37 = .ok (.iconst (-1), 1) := by decide +kernel
theorem dX6_read_38 : decode cX6_read 38 = .ok (.ireturn, 1) := by decide +kernel
theorem dX6_read_39 : decode cX6_read 39 = .ok (.aload_n 0, 1) := by decide +kernel
theorem dX6_read_40 : decode cX6_read 40 = .ok (.iconst 0, 1) := by decide +kernel
theorem dX6_read_41 : decode cX6_read 41 = .ok (.sipush 189, 3) := by decide +kernel
theorem dX6_read_44 : decode cX6_read 44 = .ok (.invokevirtual 248, 3) := by decide +kernel
theorem dX6_read_47 : decode cX6_read 47 = .ok (.iconst 0, 1) := by decide +kernel
theorem dX6_read_48 : decode cX6_read 48 = .ok (.istore 5, 2) := by decide +kernel
theorem dX6_read_50 : decode cX6_read 50 = .ok (.iconst 0, 1) := by decide +kernel
theorem dX6_read_51 : decode cX6_read 51 = .ok (.istore 6, 2) := by decide +kernel
theorem dX6_read_53 : decode cX6_read 53 = .ok (.iconst 0, 1) := by decide +kernel
theorem dX6_read_54 : decode cX6_read 54 = .ok (.istore 7, 2) := by decide +kernel
theorem dX6_read_56 : decode cX6_read 56 = .ok (.iload 7, 2) := by decide +kernel
theorem dX6_read_58 : decode cX6_read 58 = .ok (.iconst 2, 1) := by decide +kernel
theorem dX6_read_59 : decode cX6_read 59 = .ok (.iload 4, 2) := by decide +kernel
theorem dX6_read_61 : decode cX6_read 61 = .ok (.imul, 1) := by decide +kernel
theorem dX6_read_62 : decode cX6_read 62 = .ok (.if_icmp .ge 136, 3) := by decide +kernel
theorem dX6_read_65 : decode cX6_read 65 = .ok (.iload 5, 2) := by decide +kernel
theorem dX6_read_67 : decode cX6_read 67 = .ok (.ifCond .ne 131, 3) := by decide +kernel
theorem dX6_read_70 : decode cX6_read 70 = .ok (.aload_n 0, 1) := by decide +kernel
theorem dX6_read_71 : decode cX6_read 71 = .ok (.getfield 57, 3) := by decide +kernel
theorem dX6_read_74 : decode cX6_read 74 = .ok (.iload_n 1, 1) := by decide +kernel
theorem dX6_read_75 : decode cX6_read 75 = .ok (.iaload, 1) := by decide +kernel
theorem dX6_read_76 : decode cX6_read 76 = .ok (.bipush (-4), 2) := by decide +kernel
theorem dX6_read_78 : decode cX6_read 78 = .ok (.if_icmp .ne 7, 3) := by decide +kernel
theorem dX6_read_81 : decode cX6_read 81 = .ok (.iconst 1, 1) := by decide +kernel
theorem dX6_read_82 : decode cX6_read 82 = .ok (.goto 44, 3) := by decide +kernel
theorem dX6_read_85 : decode cX6_read 85 = .ok (.aload_n 0, 1) := by decide +kernel
theorem dX6_read_86 : decode cX6_read 86 = .ok (.getfield 57, 3) := by decide +kernel
theorem dX6_read_89 : decode cX6_read 89 = .ok (.iload_n 1, 1) := by decide +kernel
theorem dX6_read_90 : decode cX6_read 90 = .ok (.iaload, 1) := by decide +kernel
theorem dX6_read_91 : decode cX6_read 91 = .ok (.iload_n 2, 1) := by decide +kernel
theorem dX6_read_92 : decode cX6_read 92 = .ok (.if_icmp .eq 7, 3) := by decide +kernel
theorem dX6_read_95 : decode cX6_read 95 = .ok (.iconst 3, 1) := by decide +kernel
theorem dX6_read_96 : decode cX6_read 96 = .ok (.goto 30, 3) := by decide +kernel
theorem dX6_read_99 : decode cX6_read 99 = .ok (.iload_n 3, 1) := by decide +kernel
theorem dX6_read_100 : decode cX6_read 100 = .ok (.i2l, 1) := by decide +kernel
theorem dX6_read_101 : decode cX6_read 101 = .ok (.iload 7, 2) := by decide +kernel
theorem dX6_read_103 : decode cX6_read 103 = .ok (.i2l, 1) := by decide +kernel
theorem dX6_read_104 : decode cX6_read 104 = .ok (.ladd, 1) := by decide +kernel
theorem dX6_read_105 : decode cX6_read 105 = .ok (.lconst 0, 1) := by decide +kernel
theorem dX6_read_106 : decode cX6_read 106 = .ok (.aload_n 0, 1) := by decide +kernel
theorem dX6_read_107 : decode cX6_read 107 = .ok (.getfield 60, 3) := by decide +kernel
theorem dX6_read_110 : decode cX6_read 110 = .ok (.iload_n 1, 1) := by decide +kernel
theorem dX6_read_111 : decode cX6_read 111 = .ok (.iaload, 1) := by decide +kernel
theorem dX6_read_112 : decode cX6_read 112 = .ok (.iconst 1, 1) := by decide +kernel
theorem dX6_read_113 : decode cX6_read 113 = .ok (.isub, 1) := by decide +kernel
theorem dX6_read_114 : decode cX6_read 114 = .ok (.i2l, 1) := by decide +kernel
theorem dX6_read_115 : decode cX6_read 115 = .ok (.invokestatic 68, 3) := by decide +kernel
theorem dX6_read_118 : decode cX6_read 118 = .ok (.ifCond .ne 7, 3) := by decide +kernel
theorem dX6_read_121 : decode cX6_read 121 = .ok (.iconst 2, 1) := by decide +kernel
theorem dX6_read_122 : decode cX6_read 122 = .ok (.goto 4, 3) := by decide +kernel
theorem dX6_read_125 : decode cX6_read 125 = .ok (.iconst 0, 1) := by decide +kernel
theorem dX6_read_126 : decode cX6_read 126 = .ok (.istore 5, 2) := by decide +kernel
theorem dX6_read_128 : decode cX6_read 128 = .ok (.iload 5, 2) := by decide +kernel
theorem dX6_read_130 : decode cX6_read 130 = .ok (.ifCond .ne 62, 3) := by decide +kernel
theorem dX6_read_133 : decode cX6_read 133 = .ok (.iload 7, 2) := by decide +kernel
theorem dX6_read_135 : decode cX6_read 135 = .ok (.iconst 2, 1) := by decide +kernel
theorem dX6_read_136 : decode cX6_read 136 = .ok (.irem, 1) := by decide +kernel
theorem dX6_read_137 : decode cX6_read 137 = .ok (.iconst 1, 1) := by decide +kernel
theorem dX6_read_138 : decode cX6_read 138 = .ok (.if_icmp .ne 54, 3) := by decide +kernel
theorem dX6_read_141 : decode cX6_read 141 = .ok (.bipush 40, 2) := by decide +kernel
theorem dX6_read_143 : decode cX6_read 143 = .ok (.iload_n 1, 1) := by decide +kernel
theorem dX6_read_144 : decode cX6_read 144 = .ok (.imul, 1) := by decide +kernel
theorem dX6_read_145 : decode cX6_read 145 = .ok (.iload_n 3, 1) := by decide +kernel
theorem dX6_read_146 : decode cX6_read 146 = .ok (.iadd, 1) := by decide +kernel
theorem dX6_read_147 : decode cX6_read 147 = .ok (.iload 7, 2) := by decide +kernel
theorem dX6_read_149 : decode cX6_read 149 = .ok (.iadd, 1) := by decide +kernel
theorem dX6_read_150 : decode cX6_read 150 = .ok (.istore 8, 2) := by decide +kernel
theorem dX6_read_152 : decode cX6_read 152 = .ok (.aload_n 0, 1) := by decide +kernel
theorem dX6_read_153 : decode cX6_read 153 = .ok (.aload_n 0, 1) := by decide +kernel
theorem dX6_read_154 : decode cX6_read 154 = .ok (.getfield 63, 3) := by decide +kernel
theorem dX6_read_157 : decode cX6_read 157 = .ok (.iload 8, 2) := by decide +kernel
theorem dX6_read_159 : decode cX6_read 159 = .ok (.iconst 1, 1) := by decide +kernel
theorem dX6_read_160 : decode cX6_read 160 = .ok (.isub, 1) := by decide +kernel
theorem dX6_read_161 : decode cX6_read 161 = .ok (.iaload, 1) := by decide +kernel
theorem dX6_read_162 : decode cX6_read 162 = .ok (.aload_n 0, 1) := by decide +kernel
theorem dX6_read_163 : decode cX6_read 163 = .ok (.getfield 63, 3) := by decide +kernel
theorem dX6_read_166 : decode cX6_read 166 = .ok (.iload 8, 2) := by decide +kernel
theorem dX6_read_168 : decode cX6_read 168 = .ok (.iaload, 1) := by decide +kernel
theorem dX6_read_169 : decode cX6_read 169 = .ok (.invokevirtual 229, 3) := by decide +kernel
theorem dX6_read_172 : decode cX6_read 172 = .ok (.ifCond .ge 17, 3) := by decide +kernel
theorem dX6_read_175 : decode cX6_read 175 = .ok (.aload_n 0, 1) := by decide +kernel
theorem dX6_read_176 : decode cX6_read 176 = .ok (.sipush 189, 3) := by decide +kernel
theorem dX6_read_179 : decode cX6_read 179 = .ok (.iconst 0, 1) := by decide +kernel
theorem dX6_read_180 : decode cX6_read 180 = .ok (.invokevirtual 248, 3) := by decide +kernel
theorem dX6_read_183 : decode cX6_read 183 = .ok (.bipush (-20), 2) := by decide +kernel
theorem dX6_read_185 : decode cX6_read 185 = .ok (.iload 6, 2) := by decide +kernel
theorem dX6_read_187 : decode cX6_read 187 = .ok (.isub, 1) := by decide +kernel
theorem dX6_read_188 : decode cX6_read 188 = .ok (.ireturn, 1) := by decide +kernel
theorem dX6_read_189 : decode cX6_read 189 = .ok (.iinc 6 1, 3) := by decide +kernel
theorem dX6_read_192 : decode cX6_read 192 = .ok (.iinc 7 1, 3) := by decide +kernel
theorem dX6_read_195 : decode cX6_read 195 = .ok (.goto (-139), 3) := by decide +kernel
theorem dX6_read_198 : decode cX6_read 198 = .ok (.aload_n 0, 1) := by decide +kernel
theorem dX6_read_199 : decode cX6_read 199 = .ok (.iload 5, 2) := by decide +kernel
theorem dX6_read_201 : decode cX6_read 201 = .ok (.putfield 301, 3) := by decide +kernel
theorem dX6_read_204 : decode cX6_read 204 = .ok (.iload 6, 2) := by decide +kernel
theorem dX6_read_206 : decode cX6_read 206 = .ok (.ireturn, 1) := by decide +kernel
theorem dX6_torn_0 : decode cX6_torn 0 = .ok (.aload_n 0, 1) := by decide +kernel
theorem dX6_torn_1 : decode cX6_torn 1 = .ok (.getfield 301, 3) := by decide +kernel
theorem dX6_torn_4 : decode cX6_torn 4 = .ok (.ireturn, 1) := by decide +kernel
theorem dX6_count_0 : decode cX6_count 0 = .ok (.iconst 0, 1) := by decide +kernel
theorem dX6_count_1 : decode cX6_count 1 = .ok (.istore_n 2, 1) := by decide +kernel
theorem dX6_count_2 : decode cX6_count 2 = .ok (.iconst 0, 1) := by decide +kernel
theorem dX6_count_3 : decode cX6_count 3 = .ok (.istore_n 3, 1) := by decide +kernel
theorem dX6_count_4 : decode cX6_count 4 = .ok (.iconst 0, 1) := by decide +kernel
theorem dX6_count_5 : decode cX6_count 5 = .ok (.istore 4, 2) := by decide +kernel
theorem dX6_count_7 : decode cX6_count 7 = .ok (.iload 4, 2) := by decide +kernel
theorem dX6_count_9 : decode cX6_count 9 = .ok (.aload_n 0, 1) := by decide +kernel
theorem dX6_count_10 : decode cX6_count 10 = .ok (.getfield 13, 3) := by decide +kernel
theorem dX6_count_13 : decode cX6_count 13 = .ok (.if_icmp .ge 31, 3) := by decide +kernel
theorem dX6_count_16 : decode cX6_count 16 = .ok (.iload_n 2, 1) := by decide +kernel
theorem dX6_count_17 : decode cX6_count 17 = .ok (.aload_n 0, 1) := by decide +kernel
theorem dX6_count_18 : decode cX6_count 18 = .ok (.getfield 7, 3) := by decide +kernel
theorem dX6_count_21 : decode cX6_count 21 = .ok (.bipush 6, 2) := by decide +kernel
theorem dX6_count_23 : decode cX6_count 23 = .ok (.iload 4, 2) := by decide +kernel
theorem dX6_count_25 : decode cX6_count 25 = .ok (.iadd, 1) := by decide +kernel
theorem dX6_count_26 : decode cX6_count 26 = .ok (.iaload, 1) := by decide +kernel
theorem dX6_count_27 : decode cX6_count 27 = .ok (.iadd, 1) := by decide +kernel
theorem dX6_count_28 : decode cX6_count 28 = .ok (.istore_n 2, 1) := by decide +kernel
theorem dX6_count_29 : decode cX6_count 29 = .ok (.iload_n 3, 1) := by decide +kernel
theorem dX6_count_30 : decode cX6_count 30 = .ok (.aload_n 0, 1) := by decide +kernel
theorem dX6_count_31 : decode cX6_count 31 = .ok (.iload 4, 2) := by decide +kernel
theorem dX6_count_33 : decode cX6_count 33 = .ok (.invokevirtual 202, 3) := by decide +kernel
theorem dX6_count_36 : decode cX6_count 36 = .ok (.iadd, 1) := by decide +kernel
theorem dX6_count_37 : decode cX6_count 37 = .ok (.istore_n 3, 1) := by decide +kernel
theorem dX6_count_38 : decode cX6_count 38 = .ok (.iinc 4 1, 3) := by decide +kernel
theorem dX6_count_41 : decode cX6_count 41 = .ok (.goto (-34), 3) := by decide +kernel
theorem dX6_count_44 : decode cX6_count 44 = .ok (.iload_n 1, 1) := by decide +kernel
theorem dX6_count_45 : decode cX6_count 45 = .ok (.tableswitch 116 0 6 #[43, 48, 78, 83, 106, 108, 114], 43) := by decide +kernel
theorem dX6_count_88 : decode cX6_count 88 = .ok (.aload_n 0, 1) := by decide +kernel
theorem dX6_count_89 : decode cX6_count 89 = .ok (.getfield 191, 3) := by decide +kernel
theorem dX6_count_92 : decode cX6_count 92 = .ok (.ireturn, 1) := by decide +kernel
theorem dX6_count_93 : decode cX6_count 93 = .ok (.aload_n 0, 1) := by decide +kernel
theorem dX6_count_94 : decode cX6_count 94 = .ok (.getfield 53, 3) := by decide +kernel
theorem dX6_count_97 : decode cX6_count 97 = .ok (.iconst 0, 1) := by decide +kernel
theorem dX6_count_98 : decode cX6_count 98 = .ok (.baload, 1) := by decide +kernel
theorem dX6_count_99 : decode cX6_count 99 = .ok (.ifCond .eq 7, 3) := by decide +kernel
theorem dX6_count_102 : decode cX6_count 102 = .ok (.iconst 1, 1) := by decide +kernel
theorem dX6_count_103 : decode cX6_count 103 = .ok (.goto 4, 3) := by decide +kernel
theorem dX6_count_106 : decode cX6_count 106 = .ok (.iconst 0, 1) := by decide +kernel
theorem dX6_count_107 : decode cX6_count 107 = .ok (.aload_n 0, 1) := by decide +kernel
theorem dX6_count_108 : decode cX6_count 108 = .ok (.getfield 53, 3) := by decide +kernel
theorem dX6_count_111 : decode cX6_count 111 = .ok (.iconst 1, 1) := by decide +kernel
theorem dX6_count_112 : decode cX6_count 112 = .ok (.baload, 1) := by decide +kernel
theorem dX6_count_113 : decode cX6_count 113 = .ok (.ifCond .eq 7, 3) := by decide +kernel
theorem dX6_count_116 : decode cX6_count 116 = .ok (.iconst 1, 1) := by decide +kernel
theorem dX6_count_117 : decode cX6_count 117 = .ok (.goto 4, 3) := by decide +kernel
theorem dX6_count_120 : decode cX6_count 120 = .ok (.iconst 0, 1) := by decide +kernel
theorem dX6_count_121 : decode cX6_count 121 = .ok (.iadd, 1) := by decide +kernel
theorem dX6_count_122 : decode cX6_count 122 = .ok (.ireturn, 1) := by decide +kernel
theorem dX6_count_123 : decode cX6_count 123 = .ok (.aload_n 0, 1) := by decide +kernel
theorem dX6_count_124 : decode cX6_count 124 = .ok (.getfield 72, 3) := by decide +kernel
theorem dX6_count_127 : decode cX6_count 127 = .ok (.ireturn, 1) := by decide +kernel
theorem dX6_count_128 : decode cX6_count 128 = .ok (.aload_n 0, 1) := by decide +kernel
theorem dX6_count_129 : decode cX6_count 129 = .ok (.getfield 57, 3) := by decide +kernel
theorem dX6_count_132 : decode cX6_count 132 = .ok (.iconst 0, 1) := by decide +kernel
theorem dX6_count_133 : decode cX6_count 133 = .ok (.iaload, 1) := by decide +kernel
theorem dX6_count_134 : decode cX6_count 134 = .ok (.bipush (-4), 2) := by decide +kernel
theorem dX6_count_136 : decode cX6_count 136 = .ok (.if_icmp .ne 8, 3) := by decide +kernel
theorem dX6_count_139 : decode cX6_count 139 = .ok (.bipush (-4), 2) := by decide +kernel
theorem dX6_count_141 : decode cX6_count 141 = .ok (.goto 9, 3) := by decide +kernel
theorem dX6_count_144 : decode cX6_count 144 = .ok (.aload_n 0, 1) := by decide +kernel
theorem dX6_count_145 : decode cX6_count 145 = .ok (.getfield 60, 3) := by decide +kernel
theorem dX6_count_148 : decode cX6_count 148 = .ok (.iconst 0, 1) := by decide +kernel
theorem dX6_count_149 : decode cX6_count 149 = .ok (.iaload, 1) := by decide +kernel
theorem dX6_count_150 : decode cX6_count 150 = .ok (.ireturn, 1) := by decide +kernel
theorem dX6_count_151 : decode cX6_count 151 = .ok (.iload_n 2, 1) := by decide +kernel
theorem dX6_count_152 : decode cX6_count 152 = .ok (.ireturn, 1) := by decide +kernel
theorem dX6_count_153 : decode cX6_count 153 = .ok (.aload_n 0, 1) := by decide +kernel
theorem dX6_count_154 : decode cX6_count 154 = .ok (.iconst 0, 1) := by decide +kernel
theorem dX6_count_155 : decode cX6_count 155 = .ok (.invokevirtual 264, 3) := by decide +kernel
theorem dX6_count_158 : decode cX6_count 158 = .ok (.ireturn, 1) := by decide +kernel
theorem dX6_count_159 : decode cX6_count 159 = .ok (.iload_n 3, 1) := by decide +kernel
theorem dX6_count_160 : decode cX6_count 160 = .ok (.ireturn, 1) := by decide +kernel
theorem dX6_count_161 : decode cX6_count 161 = .ok (.iconst (-1), 1) := by decide +kernel
theorem dX6_count_162 : decode cX6_count 162 = .ok (.ireturn, 1) := by decide +kernel
