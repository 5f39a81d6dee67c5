theorem dX12_init_0 : decode cX12_init 0 = .ok (.aload_n 0, 1) := by decide +kernel
theorem dX12_init_1 : decode cX12_init 1 = .ok (.invokespecial 1, 3) := by decide +kernel
theorem dX12_init_4 : decode cX12_init 4 = .ok (.aload_n 0, 1) := by decide +kernel
theorem dX12_init_5 : decode cX12_init 5 = .ok (.sipush 192, 3) := by decide +kernel
theorem dX12_init_8 : decode cX12_init 8 = .ok (.newarray .int, 2) := by decide +kernel
theorem dX12_init_10 : decode cX12_init 10 = .ok (.putfield 7, 3) := by decide +kernel
theorem dX12_init_13 : decode cX12_init 13 = .ok (.aload_n 0, 1) := by decide +kernel
theorem dX12_init_14 : decode cX12_init 14 = .ok (.bipush 6, 2) := by decide +kernel
theorem dX12_init_16 : decode cX12_init 16 = .ok (.newarray .int, 2) := by decide +kernel
theorem dX12_init_18 : decode cX12_init 18 = .ok (.putfield 13, 3) := by decide +kernel
theorem dX12_init_21 : decode cX12_init 21 = .ok (.aload_n 0, 1) := by decide +kernel
theorem dX12_init_22 : decode cX12_init 22 = .ok (.bipush 6, 2) := by decide +kernel
theorem dX12_init_24 : decode cX12_init 24 = .ok (.newarray .int, 2) := by decide +kernel
theorem dX12_init_26 : decode cX12_init 26 = .ok (.putfield 16, 3) := by decide +kernel
theorem dX12_init_29 : decode cX12_init 29 = .ok (.aload_n 0, 1) := by decide +kernel
theorem dX12_init_30 : decode cX12_init 30 = .ok (.sipush 512, 3) := by decide +kernel
theorem dX12_init_33 : decode cX12_init 33 = .ok (.newarray .int, 2) := by decide +kernel
theorem dX12_init_35 : decode cX12_init 35 = .ok (.putfield 19, 3) := by decide +kernel
theorem dX12_init_38 : decode cX12_init 38 = .ok (.aload_n 0, 1) := by decide +kernel
theorem dX12_init_39 : decode cX12_init 39 = .ok (.bipush 16, 2) := by decide +kernel
theorem dX12_init_41 : decode cX12_init 41 = .ok (.newarray .int, 2) := by decide +kernel
theorem dX12_init_43 : decode cX12_init 43 = .ok (.putfield 22, 3) := by decide +kernel
theorem dX12_init_46 : decode cX12_init 46 = .ok (.aload_n 0, 1) := by decide +kernel
theorem dX12_init_47 : decode cX12_init 47 = .ok (.bipush 16, 2) := by decide +kernel
theorem dX12_init_49 : decode cX12_init 49 = .ok (.newarray .int, 2) := by decide +kernel
theorem dX12_init_51 : decode cX12_init 51 = .ok (.putfield 25, 3) := by decide +kernel
theorem dX12_init_54 : decode cX12_init 54 = .ok (.aload_n 0, 1) := by decide +kernel
theorem dX12_init_55 : decode cX12_init 55 = .ok (.bipush 16, 2) := by decide +kernel
theorem dX12_init_57 : decode cX12_init 57 = .ok (.newarray .int, 2) := by decide +kernel
theorem dX12_init_59 : decode cX12_init 59 = .ok (.putfield 28, 3) := by decide +kernel
theorem dX12_init_62 : decode cX12_init 62 = .ok (.aload_n 0, 1) := by decide +kernel
theorem dX12_init_63 : decode cX12_init 63 = .ok (.bipush 16, 2) := by decide +kernel
theorem dX12_init_65 : decode cX12_init 65 = .ok (.newarray .int, 2) := by decide +kernel
theorem dX12_init_67 : decode cX12_init 67 = .ok (.putfield 31, 3) := by decide +kernel
theorem dX12_init_70 : decode cX12_init 70 = .ok (.aload_n 0, 1) := by decide +kernel
theorem dX12_init_71 : decode cX12_init 71 = .ok (.bipush 16, 2) := by decide +kernel
theorem dX12_init_73 : decode cX12_init 73 = .ok (.newarray .int, 2) := by decide +kernel
theorem dX12_init_75 : decode cX12_init 75 = .ok (.putfield 34, 3) := by decide +kernel
theorem dX12_init_78 : decode cX12_init 78 = .ok (.aload_n 0, 1) := by decide +kernel
theorem dX12_init_79 : decode cX12_init 79 = .ok (.sipush 1280, 3) := by decide +kernel
theorem dX12_init_82 : decode cX12_init 82 = .ok (.newarray .int, 2) := by decide +kernel
theorem dX12_init_84 : decode cX12_init 84 = .ok (.putfield 37, 3) := by decide +kernel
theorem dX12_init_87 : decode cX12_init 87 = .ok (.aload_n 0, 1) := by decide +kernel
theorem dX12_init_88 : decode cX12_init 88 = .ok (.bipush 40, 2) := by decide +kernel
theorem dX12_init_90 : decode cX12_init 90 = .ok (.newarray .int, 2) := by decide +kernel
theorem dX12_init_92 : decode cX12_init 92 = .ok (.putfield 40, 3) := by decide +kernel
theorem dX12_init_95 : decode cX12_init 95 = .ok (.aload_n 0, 1) := by decide +kernel
theorem dX12_init_96 : decode cX12_init 96 = .ok (.bipush 40, 2) := by decide +kernel
theorem dX12_init_98 : decode cX12_init 98 = .ok (.newarray .int, 2) := by decide +kernel
theorem dX12_init_100 : decode cX12_init 100 = .ok (.putfield 43, 3) := by decide +kernel
theorem dX12_init_103 : decode cX12_init 103 = .ok (.aload_n 0, 1) := by decide +kernel
theorem dX12_init_104 : decode cX12_init 104 = .ok (.bipush 40, 2) := by decide +kernel
theorem dX12_init_106 : decode cX12_init 106 = .ok (.newarray .int, 2) := by decide +kernel
theorem dX12_init_108 : decode cX12_init 108 = .ok (.putfield 46, 3) := by decide +kernel
theorem dX12_init_111 : decode cX12_init 111 = .ok (.aload_n 0, 1) := by decide +kernel
theorem dX12_init_112 : decode cX12_init 112 = .ok (.sipush 600, 3) := by decide +kernel
theorem dX12_init_115 : decode cX12_init 115 = .ok (.newarray .int, 2) := by decide +kernel
theorem dX12_init_117 : decode cX12_init 117 = .ok (.putfield 49, 3) := by decide +kernel
theorem dX12_init_120 : decode cX12_init 120 = .ok (.aload_n 0, 1) := by decide +kernel
theorem dX12_init_121 : decode cX12_init 121 = .ok (.bipush 115, 2) := by decide +kernel
theorem dX12_init_123 : decode cX12_init 123 = .ok (.newarray .int, 2) := by decide +kernel
theorem dX12_init_125 : decode cX12_init 125 = .ok (.dup, 1) := by decide +kernel
theorem dX12_init_126 : decode cX12_init 126 = .ok (.iconst 0, 1) := by decide +kernel
theorem dX12_init_127 : decode cX12_init 127 = .ok (.bipush 32, 2) := by decide +kernel
theorem dX12_init_129 : decode cX12_init 129 = .ok (.iastore, 1) := by decide +kernel
theorem dX12_init_130 : decode cX12_init 130 = .ok (.dup, 1) := by decide +kernel
theorem dX12_init_131 : decode cX12_init 131 = .ok (.iconst 1, 1) := by decide +kernel
theorem dX12_init_132 : decode cX12_init 132 = .ok (.bipush 99, 2) := by decide +kernel
theorem dX12_init_134 : decode cX12_init 134 = .ok (.iastore, 1) := by decide +kernel
theorem dX12_init_135 : decode cX12_init 135 = .ok (.dup, 1) := by decide +kernel
theorem dX12_init_136 : decode cX12_init 136 = .ok (.iconst 2, 1) := by decide +kernel
theorem dX12_init_137 : decode cX12_init 137 = .ok (.bipush 117, 2) := by decide +kernel
theorem dX12_init_139 : decode cX12_init 139 = .ok (.iastore, 1) := by decide +kernel
theorem dX12_init_140 : decode cX12_init 140 = .ok (.dup, 1) := by decide +kernel
theorem dX12_init_141 : decode cX12_init 141 = .ok (.iconst 3, 1) := by decide +kernel
theorem dX12_init_142 : decode cX12_init 142 = .ok (.bipush 116, 2) := by decide +kernel
theorem dX12_init_144 : decode cX12_init 144 = .ok (.iastore, 1) := by decide +kernel
theorem dX12_init_145 : decode cX12_init 145 = .ok (.dup, 1) := by decide +kernel
theorem dX12_init_146 : decode cX12_init 146 = .ok (.iconst 4, 1) := by decide +kernel
theorem dX12_init_147 : decode cX12_init 147 = .ok (.bipush 32, 2) := by decide +kernel
theorem dX12_init_149 : decode cX12_init 149 = .ok (.iastore, 1) := by decide +kernel
theorem dX12_init_150 : decode cX12_init 150 = .ok (.dup, 1) := by decide +kernel
theorem dX12_init_151 : decode cX12_init 151 = .ok (.iconst 5, 1) := by decide +kernel
theorem dX12_init_152 : decode cX12_init 152 = .ok (.bipush 119, 2) := by decide +kernel
theorem dX12_init_154 : decode cX12_init 154 = .ok (.iastore, 1) := by decide +kernel
theorem dX12_init_155 : decode cX12_init 155 = .ok (.dup, 1) := by decide +kernel
theorem dX12_init_156 : decode cX12_init 156 = .ok (.bipush 6, 2) := by decide +kernel
theorem dX12_init_158 : decode cX12_init 158 = .ok (.bipush 101, 2) := by decide +kernel
theorem dX12_init_160 : decode cX12_init 160 = .ok (.iastore, 1) := by decide +kernel
theorem dX12_init_161 : decode cX12_init 161 = .ok (.dup, 1) := by decide +kernel
theorem dX12_init_162 : decode cX12_init 162 = .ok (.bipush 7, 2) := by decide +kernel
theorem dX12_init_164 : decode cX12_init 164 = .ok (.bipush 97, 2) := by decide +kernel
theorem dX12_init_166 : decode cX12_init 166 = .ok (.iastore, 1) := by decide +kernel
theorem dX12_init_167 : decode cX12_init 167 = .ok (.dup, 1) := by decide +kernel
theorem dX12_init_168 : decode cX12_init 168 = .ok (.bipush 8, 2) := by decide +kernel
theorem dX12_init_170 : decode cX12_init 170 = .ok (.bipush 114, 2) := by decide +kernel
theorem dX12_init_172 : decode cX12_init 172 = .ok (.iastore, 1) := by decide +kernel
theorem dX12_init_173 : decode cX12_init 173 = .ok (.dup, 1) := by decide +kernel
theorem dX12_init_174 : decode cX12_init 174 = .ok (.bipush 9, 2) := by decide +kernel
theorem dX12_init_176 : decode cX12_init 176 = .ok (.bipush 32, 2) := by decide +kernel
theorem dX12_init_178 : decode cX12_init 178 = .ok (.iastore, 1) := by decide +kernel
theorem dX12_init_179 : decode cX12_init 179 = .ok (.dup, 1) := by decide +kernel
theorem dX12_init_180 : decode cX12_init 180 = .ok (.bipush 10, 2) := by decide +kernel
theorem dX12_init_182 : decode cX12_init 182 = .ok (.bipush 116, 2) := by decide +kernel
theorem dX12_init_184 : decode cX12_init 184 = .ok (.iastore, 1) := by decide +kernel
theorem dX12_init_185 : decode cX12_init 185 = .ok (.dup, 1) := by decide +kernel
theorem dX12_init_186 : decode cX12_init 186 = .ok (.bipush 11, 2) := by decide +kernel
theorem dX12_init_188 : decode cX12_init 188 = .ok (.bipush 97, 2) := by decide +kernel
theorem dX12_init_190 : decode cX12_init 190 = .ok (.iastore, 1) := by decide +kernel
theorem dX12_init_191 : decode cX12_init 191 = .ok (.dup, 1) := by decide +kernel
theorem dX12_init_192 : decode cX12_init 192 = .ok (.bipush 12, 2) := by decide +kernel
theorem dX12_init_194 : decode cX12_init 194 = .ok (.bipush 107, 2) := by decide +kernel
theorem dX12_init_196 : decode cX12_init 196 = .ok (.iastore, 1) := by decide +kernel
theorem dX12_init_197 : decode cX12_init 197 = .ok (.dup, 1) := by decide +kernel
theorem dX12_init_198 : decode cX12_init 198 = .ok (.bipush 13, 2) := by decide +kernel
theorem dX12_init_200 : decode cX12_init 200 = .ok (.bipush 101, 2) := by decide +kernel
theorem dX12_init_202 : decode cX12_init 202 = .ok (.iastore, 1) := by decide +kernel
theorem dX12_init_203 : decode cX12_init 203 = .ok (.dup, 1) := by decide +kernel
theorem dX12_init_204 : decode cX12_init 204 = .ok (.bipush 14, 2) := by decide +kernel
theorem dX12_init_206 : decode cX12_init 206 = .ok (.bipush 32, 2) := by decide +kernel
theorem dX12_init_208 : decode cX12_init 208 = .ok (.iastore, 1) := by decide +kernel
theorem dX12_init_209 : decode cX12_init 209 = .ok (.dup, 1) := by decide +kernel
theorem dX12_init_210 : decode cX12_init 210 = .ok (.bipush 15, 2) := by decide +kernel
theorem dX12_init_212 : decode cX12_init 212 = .ok (.bipush 115, 2) := by decide +kernel
theorem dX12_init_214 : decode cX12_init 214 = .ok (.iastore, 1) := by decide +kernel
theorem dX12_init_215 : decode cX12_init 215 = .ok (.dup, 1) := by decide +kernel
theorem dX12_init_216 : decode cX12_init 216 = .ok (.bipush 16, 2) := by decide +kernel
theorem dX12_init_218 : decode cX12_init 218 = .ok (.bipush 97, 2) := by decide +kernel
theorem dX12_init_220 : decode cX12_init 220 = .ok (.iastore, 1) := by decide +kernel
theorem dX12_init_221 : decode cX12_init 221 = .ok (.dup, 1) := by decide +kernel
theorem dX12_init_222 : decode cX12_init 222 = .ok (.bipush 17, 2) := by decide +kernel
theorem dX12_init_224 : decode cX12_init 224 = .ok (.bipush 109, 2) := by decide +kernel
theorem dX12_init_226 : decode cX12_init 226 = .ok (.iastore, 1) := by decide +kernel
theorem dX12_init_227 : decode cX12_init 227 = .ok (.dup, 1) := by decide +kernel
theorem dX12_init_228 : decode cX12_init 228 = .ok (.bipush 18, 2) := by decide +kernel
theorem dX12_init_230 : decode cX12_init 230 = .ok (.bipush 101, 2) := by decide +kernel
theorem dX12_init_232 : decode cX12_init 232 = .ok (.iastore, 1) := by decide +kernel
theorem dX12_init_233 : decode cX12_init 233 = .ok (.dup, 1) := by decide +kernel
theorem dX12_init_234 : decode cX12_init 234 = .ok (.bipush 19, 2) := by decide +kernel
theorem dX12_init_236 : decode cX12_init 236 = .ok (.bipush 32, 2) := by decide +kernel
theorem dX12_init_238 : decode cX12_init 238 = .ok (.iastore, 1) := by decide +kernel
theorem dX12_init_239 : decode cX12_init 239 = .ok (.dup, 1) := by decide +kernel
theorem dX12_init_240 : decode cX12_init 240 = .ok (.bipush 20, 2) := by decide +kernel
theorem dX12_init_242 : decode cX12_init 242 = .ok (.bipush 110, 2) := by decide +kernel
theorem dX12_init_244 : decode cX12_init 244 = .ok (.iastore, 1) := by decide +kernel
theorem dX12_init_245 : decode cX12_init 245 = .ok (.dup, 1) := by decide +kernel
theorem dX12_init_246 : decode cX12_init 246 = .ok (.bipush 21, 2) := by decide +kernel
theorem dX12_init_248 : decode cX12_init 248 = .ok (.bipush 111, 2) := by decide +kernel
theorem dX12_init_250 : decode cX12_init 250 = .ok (.iastore, 1) := by decide +kernel
theorem dX12_init_251 : decode cX12_init 251 = .ok (.dup, 1) := by decide +kernel
theorem dX12_init_252 : decode cX12_init 252 = .ok (.bipush 22, 2) := by decide +kernel
theorem dX12_init_254 : decode cX12_init 254 = .ok (.bipush 116, 2) := by decide +kernel
theorem dX12_init_256 : decode cX12_init 256 = .ok (.iastore, 1) := by decide +kernel
theorem dX12_init_257 : decode cX12_init 257 = .ok (.dup, 1) := by decide +kernel
theorem dX12_init_258 : decode cX12_init 258 = .ok (.bipush 23, 2) := by decide +kernel
theorem dX12_init_260 : decode cX12_init 260 = .ok (.bipush 32, 2) := by decide +kernel
theorem dX12_init_262 : decode cX12_init 262 = .ok (.iastore, 1) := by decide +kernel
theorem dX12_init_263 : decode cX12_init 263 = .ok (.dup, 1) := by decide +kernel
theorem dX12_init_264 : decode cX12_init 264 = .ok (.bipush 24, 2) := by decide +kernel
theorem dX12_init_266 : decode cX12_init 266 = .ok (.bipush 119, 2) := by decide +kernel
theorem dX12_init_268 : decode cX12_init 268 = .ok (.iastore, 1) := by decide +kernel
theorem dX12_init_269 : decode cX12_init 269 = .ok (.dup, 1) := by decide +kernel
theorem dX12_init_270 : decode cX12_init 270 = .ok (.bipush 25, 2) := by decide +kernel
theorem dX12_init_272 : decode cX12_init 272 = .ok (.bipush 104, 2) := by decide +kernel
theorem dX12_init_274 : decode cX12_init 274 = .ok (.iastore, 1) := by decide +kernel
theorem dX12_init_275 : decode cX12_init 275 = .ok (.dup, 1) := by decide +kernel
theorem dX12_init_276 : decode cX12_init 276 = .ok (.bipush 26, 2) := by decide +kernel
theorem dX12_init_278 : decode cX12_init 278 = .ok (.bipush 101, 2) := by decide +kernel
theorem dX12_init_280 : decode cX12_init 280 = .ok (.iastore, 1) := by decide +kernel
theorem dX12_init_281 : decode cX12_init 281 = .ok (.dup, 1) := by decide +kernel
theorem dX12_init_282 : decode cX12_init 282 = .ok (.bipush 27, 2) := by decide +kernel
theorem dX12_init_284 : decode cX12_init 284 = .ok (.bipush 110, 2) := by decide +kernel
theorem dX12_init_286 : decode cX12_init 286 = .ok (.iastore, 1) := by decide +kernel
theorem dX12_init_287 : decode cX12_init 287 = .ok (.dup, 1) := by decide +kernel
theorem dX12_init_288 : decode cX12_init 288 = .ok (.bipush 28, 2) := by decide +kernel
theorem dX12_init_290 : decode cX12_init 290 = .ok (.bipush 32, 2) := by decide +kernel
theorem dX12_init_292 : decode cX12_init 292 = .ok (.iastore, 1) := by decide +kernel
theorem dX12_init_293 : decode cX12_init 293 = .ok (.dup, 1) := by decide +kernel
theorem dX12_init_294 : decode cX12_init 294 = .ok (.bipush 29, 2) := by decide +kernel
theorem dX12_init_296 : decode cX12_init 296 = .ok (.bipush 111, 2) := by decide +kernel
theorem dX12_init_298 : decode cX12_init 298 = .ok (.iastore, 1) := by decide +kernel
theorem dX12_init_299 : decode cX12_init 299 = .ok (.dup, 1) := by decide +kernel
theorem dX12_init_300 : decode cX12_init 300 = .ok (.bipush 30, 2) := by decide +kernel
theorem dX12_init_302 : decode cX12_init 302 = .ok (.bipush 114, 2) := by decide +kernel
theorem dX12_init_304 : decode cX12_init 304 = .ok (.iastore, 1) := by decide +kernel
theorem dX12_init_305 : decode cX12_init 305 = .ok (.dup, 1) := by decide +kernel
theorem dX12_init_306 : decode cX12_init 306 = .ok (.bipush 31, 2) := by decide +kernel
theorem dX12_init_308 : decode cX12_init 308 = .ok (.bipush 32, 2) := by decide +kernel
theorem dX12_init_310 : decode cX12_init 310 = .ok (.iastore, 1) := by decide +kernel
theorem dX12_init_311 : decode cX12_init 311 = .ok (.dup, 1) := by decide +kernel
theorem dX12_init_312 : decode cX12_init 312 = .ok (.bipush 32, 2) := by decide +kernel
theorem dX12_init_314 : decode cX12_init 314 = .ok (.bipush 97, 2) := by decide +kernel
theorem dX12_init_316 : decode cX12_init 316 = .ok (.iastore, 1) := by decide +kernel
theorem dX12_init_317 : decode cX12_init 317 = .ok (.dup, 1) := by decide +kernel
theorem dX12_init_318 : decode cX12_init 318 = .ok (.bipush 33, 2) := by decide +kernel
theorem dX12_init_320 : decode cX12_init 320 = .ok (.bipush 110, 2) := by decide +kernel
theorem dX12_init_322 : decode cX12_init 322 = .ok (.iastore, 1) := by decide +kernel
theorem dX12_init_323 : decode cX12_init 323 = .ok (.dup, 1) := by decide +kernel
theorem dX12_init_324 : decode cX12_init 324 = .ok (.bipush 34, 2) := by decide +kernel
theorem dX12_init_326 : decode cX12_init 326 = .ok (.bipush 100, 2) := by decide +kernel
theorem dX12_init_328 : decode cX12_init 328 = .ok (.iastore, 1) := by decide +kernel
theorem dX12_init_329 : decode cX12_init 329 = .ok (.dup, 1) := by decide +kernel
theorem dX12_init_330 : decode cX12_init 330 = .ok (.bipush 35, 2) := by decide +kernel
theorem dX12_init_332 : decode cX12_init 332 = .ok (.bipush 32, 2) := by decide +kernel
theorem dX12_init_334 : decode cX12_init 334 = .ok (.iastore, 1) := by decide +kernel
theorem dX12_init_335 : decode cX12_init 335 = .ok (.dup, 1) := by decide +kernel
theorem dX12_init_336 : decode cX12_init 336 = .ok (.bipush 36, 2) := by decide +kernel
theorem dX12_init_338 : decode cX12_init 338 = .ok (.bipush 110, 2) := by decide +kernel
theorem dX12_init_340 : decode cX12_init 340 = .ok (.iastore, 1) := by decide +kernel
theorem dX12_init_341 : decode cX12_init 341 = .ok (.dup, 1) := by decide +kernel
theorem dX12_init_342 : decode cX12_init 342 = .ok (.bipush 37, 2) := by decide +kernel
theorem dX12_init_344 : decode cX12_init 344 = .ok (.bipush 111, 2) := by decide +kernel
theorem dX12_init_346 : decode cX12_init 346 = .ok (.iastore, 1) := by decide +kernel
theorem dX12_init_347 : decode cX12_init 347 = .ok (.dup, 1) := by decide +kernel
theorem dX12_init_348 : decode cX12_init 348 = .ok (.bipush 38, 2) := by decide +kernel
theorem dX12_init_350 : decode cX12_init 350 = .ok (.bipush 32, 2) := by decide +kernel
theorem dX12_init_352 : decode cX12_init 352 = .ok (.iastore, 1) := by decide +kernel
theorem dX12_init_353 : decode cX12_init 353 = .ok (.dup, 1) := by decide +kernel
theorem dX12_init_354 : decode cX12_init 354 = .ok (.bipush 39, 2) := by decide +kernel
theorem dX12_init_356 : decode cX12_init 356 = .ok (.bipush 97, 2) := by decide +kernel
theorem dX12_init_358 : decode cX12_init 358 = .ok (.iastore, 1) := by decide +kernel
theorem dX12_init_359 : decode cX12_init 359 = .ok (.dup, 1) := by decide +kernel
theorem dX12_init_360 : decode cX12_init 360 = .ok (.bipush 40, 2) := by decide +kernel
theorem dX12_init_362 : decode cX12_init 362 = .ok (.bipush 116, 2) := by decide +kernel
theorem dX12_init_364 : decode cX12_init 364 = .ok (.iastore, 1) := by decide +kernel
theorem dX12_init_365 : decode cX12_init 365 = .ok (.dup, 1) := by decide +kernel
theorem dX12_init_366 : decode cX12_init 366 = .ok (.bipush 41, 2) := by decide +kernel
theorem dX12_init_368 : decode cX12_init 368 = .ok (.bipush 32, 2) := by decide +kernel
theorem dX12_init_370 : decode cX12_init 370 = .ok (.iastore, 1) := by decide +kernel
theorem dX12_init_371 : decode cX12_init 371 = .ok (.dup, 1) := by decide +kernel
theorem dX12_init_372 : decode cX12_init 372 = .ok (.bipush 42, 2) := by decide +kernel
theorem dX12_init_374 : decode cX12_init 374 = .ok (.bipush 104, 2) := by decide +kernel
theorem dX12_init_376 : decode cX12_init 376 = .ok (.iastore, 1) := by decide +kernel
theorem dX12_init_377 : decode cX12_init 377 = .ok (.dup, 1) := by decide +kernel
theorem dX12_init_378 : decode cX12_init 378 = .ok (.bipush 43, 2) := by decide +kernel
theorem dX12_init_380 : decode cX12_init 380 = .ok (.bipush 105, 2) := by decide +kernel
theorem dX12_init_382 : decode cX12_init 382 = .ok (.iastore, 1) := by decide +kernel
theorem dX12_init_383 : decode cX12_init 383 = .ok (.dup, 1) := by decide +kernel
theorem dX12_init_384 : decode cX12_init 384 = .ok (.bipush 44, 2) := by decide +kernel
theorem dX12_init_386 : decode cX12_init 386 = .ok (.bipush 103, 2) := by decide +kernel
theorem dX12_init_388 : decode cX12_init 388 = .ok (.iastore, 1) := by decide +kernel
theorem dX12_init_389 : decode cX12_init 389 = .ok (.dup, 1) := by decide +kernel
theorem dX12_init_390 : decode cX12_init 390 = .ok (.bipush 45, 2) := by decide +kernel
theorem dX12_init_392 : decode cX12_init 392 = .ok (.bipush 104, 2) := by decide +kernel
theorem dX12_init_394 : decode cX12_init 394 = .ok (.iastore, 1) := by decide +kernel
theorem dX12_init_395 : decode cX12_init 395 = .ok (.dup, 1) := by decide +kernel
theorem dX12_init_396 : decode cX12_init 396 = .ok (.bipush 46, 2) := by decide +kernel
theorem dX12_init_398 : decode cX12_init 398 = .ok (.bipush 32, 2) := by decide +kernel
theorem dX12_init_400 : decode cX12_init 400 = .ok (.iastore, 1) := by decide +kernel
theorem dX12_init_401 : decode cX12_init 401 = .ok (.dup, 1) := by decide +kernel
theorem dX12_init_402 : decode cX12_init 402 = .ok (.bipush 47, 2) := by decide +kernel
theorem dX12_init_404 : decode cX12_init 404 = .ok (.bipush 108, 2) := by decide +kernel
theorem dX12_init_406 : decode cX12_init 406 = .ok (.iastore, 1) := by decide +kernel
theorem dX12_init_407 : decode cX12_init 407 = .ok (.dup, 1) := by decide +kernel
theorem dX12_init_408 : decode cX12_init 408 = .ok (.bipush 48, 2) := by decide +kernel
theorem dX12_init_410 : decode cX12_init 410 = .ok (.bipush 101, 2) := by decide +kernel
theorem dX12_init_412 : decode cX12_init 412 = .ok (.iastore, 1) := by decide +kernel
theorem dX12_init_413 : decode cX12_init 413 = .ok (.dup, 1) := by decide +kernel
theorem dX12_init_414 : decode cX12_init 414 = .ok (.bipush 49, 2) := by decide +kernel
theorem dX12_init_416 : decode cX12_init 416 = .ok (.bipush 102, 2) := by decide +kernel
theorem dX12_init_418 : decode cX12_init 418 = .ok (.iastore, 1) := by decide +kernel
theorem dX12_init_419 : decode cX12_init 419 = .ok (.dup, 1) := by decide +kernel
theorem dX12_init_420 : decode cX12_init 420 = .ok (.bipush 50, 2) := by decide +kernel
theorem dX12_init_422 : decode cX12_init 422 = .ok (.bipush 116, 2) := by decide +kernel
theorem dX12_init_424 : decode cX12_init 424 = .ok (.iastore, 1) := by decide +kernel
theorem dX12_init_425 : decode cX12_init 425 = .ok (.dup, 1) := by decide +kernel
theorem dX12_init_426 : decode cX12_init 426 = .ok (.bipush 51, 2) := by decide +kernel
theorem dX12_init_428 : decode cX12_init 428 = .ok (.bipush 32, 2) := by decide +kernel
theorem dX12_init_430 : decode cX12_init 430 = .ok (.iastore, 1) := by decide +kernel
theorem dX12_init_431 : decode cX12_init 431 = .ok (.dup, 1) := by decide +kernel
theorem dX12_init_432 : decode cX12_init 432 = .ok (.bipush 52, 2) := by decide +kernel
theorem dX12_init_434 : decode cX12_init 434 = .ok (.bipush 114, 2) := by decide +kernel
theorem dX12_init_436 : decode cX12_init 436 = .ok (.iastore, 1) := by decide +kernel
theorem dX12_init_437 : decode cX12_init 437 = .ok (.dup, 1) := by decide +kernel
theorem dX12_init_438 : decode cX12_init 438 = .ok (.bipush 53, 2) := by decide +kernel
theorem dX12_init_440 : decode cX12_init 440 = .ok (.bipush 105, 2) := by decide +kernel
theorem dX12_init_442 : decode cX12_init 442 = .ok (.iastore, 1) := by decide +kernel
theorem dX12_init_443 : decode cX12_init 443 = .ok (.dup, 1) := by decide +kernel
theorem dX12_init_444 : decode cX12_init 444 = .ok (.bipush 54, 2) := by decide +kernel
theorem dX12_init_446 : decode cX12_init 446 = .ok (.bipush 103, 2) := by decide +kernel
theorem dX12_init_448 : decode cX12_init 448 = .ok (.iastore, 1) := by decide +kernel
theorem dX12_init_449 : decode cX12_init 449 = .ok (.dup, 1) := by decide +kernel
theorem dX12_init_450 : decode cX12_init 450 = .ok (.bipush 55, 2) := by decide +kernel
theorem dX12_init_452 : decode cX12_init 452 = .ok (.bipush 104, 2) := by decide +kernel
theorem dX12_init_454 : decode cX12_init 454 = .ok (.iastore, 1) := by decide +kernel
theorem dX12_init_455 : decode cX12_init 455 = .ok (.dup, 1) := by decide +kernel
theorem dX12_init_456 : decode cX12_init 456 = .ok (.bipush 56, 2) := by decide +kernel
theorem dX12_init_458 : decode cX12_init 458 = .ok (.bipush 116, 2) := by decide +kernel
theorem dX12_init_460 : decode cX12_init 460 = .ok (.iastore, 1) := by decide +kernel
theorem dX12_init_461 : decode cX12_init 461 = .ok (.dup, 1) := by decide +kernel
theorem dX12_init_462 : decode cX12_init 462 = .ok (.bipush 57, 2) := by decide +kernel
theorem dX12_init_464 : decode cX12_init 464 = .ok (.bipush 32, 2) := by decide +kernel
theorem dX12_init_466 : decode cX12_init 466 = .ok (.iastore, 1) := by decide +kernel
theorem dX12_init_467 : decode cX12_init 467 = .ok (.dup, 1) := by decide +kernel
theorem dX12_init_468 : decode cX12_init 468 = .ok (.bipush 58, 2) := by decide +kernel
theorem dX12_init_470 : decode cX12_init 470 = .ok (.bipush 100, 2) := by decide +kernel
theorem dX12_init_472 : decode cX12_init 472 = .ok (.iastore, 1) := by decide +kernel
theorem dX12_init_473 : decode cX12_init 473 = .ok (.dup, 1) := by decide +kernel
theorem dX12_init_474 : decode cX12_init 474 = .ok (.bipush 59, 2) := by decide +kernel
theorem dX12_init_476 : decode cX12_init 476 = .ok (.bipush 114, 2) := by decide +kernel
theorem dX12_init_478 : decode cX12_init 478 = .ok (.iastore, 1) := by decide +kernel
theorem dX12_init_479 : decode cX12_init 479 = .ok (.dup, 1) := by decide +kernel
theorem dX12_init_480 : decode cX12_init 480 = .ok (.bipush 60, 2) := by decide +kernel
theorem dX12_init_482 : decode cX12_init 482 = .ok (.bipush 97, 2) := by decide +kernel
theorem dX12_init_484 : decode cX12_init 484 = .ok (.iastore, 1) := by decide +kernel
theorem dX12_init_485 : decode cX12_init 485 = .ok (.dup, 1) := by decide +kernel
theorem dX12_init_486 : decode cX12_init 486 = .ok (.bipush 61, 2) := by decide +kernel
theorem dX12_init_488 : decode cX12_init 488 = .ok (.bipush 119, 2) := by decide +kernel
theorem dX12_init_490 : decode cX12_init 490 = .ok (.iastore, 1) := by decide +kernel
theorem dX12_init_491 : decode cX12_init 491 = .ok (.dup, 1) := by decide +kernel
theorem dX12_init_492 : decode cX12_init 492 = .ok (.bipush 62, 2) := by decide +kernel
theorem dX12_init_494 : decode cX12_init 494 = .ok (.bipush 32, 2) := by decide +kernel
theorem dX12_init_496 : decode cX12_init 496 = .ok (.iastore, 1) := by decide +kernel
theorem dX12_init_497 : decode cX12_init 497 = .ok (.dup, 1) := by decide +kernel
theorem dX12_init_498 : decode cX12_init 498 = .ok (.bipush 63, 2) := by decide +kernel
theorem dX12_init_500 : decode cX12_init 500 = .ok (.bipush 115, 2) := by decide +kernel
theorem dX12_init_502 : decode cX12_init 502 = .ok (.iastore, 1) := by decide +kernel
theorem dX12_init_503 : decode cX12_init 503 = .ok (.dup, 1) := by decide +kernel
theorem dX12_init_504 : decode cX12_init 504 = .ok (.bipush 64, 2) := by decide +kernel
theorem dX12_init_506 : decode cX12_init 506 = .ok (.bipush 104, 2) := by decide +kernel
theorem dX12_init_508 : decode cX12_init 508 = .ok (.iastore, 1) := by decide +kernel
theorem dX12_init_509 : decode cX12_init 509 = .ok (.dup, 1) := by decide +kernel
theorem dX12_init_510 : decode cX12_init 510 = .ok (.bipush 65, 2) := by decide +kernel
theorem dX12_init_512 : decode cX12_init 512 = .ok (.bipush 111, 2) := by decide +kernel
theorem dX12_init_514 : decode cX12_init 514 = .ok (.iastore, 1) := by decide +kernel
theorem dX12_init_515 : decode cX12_init 515 = .ok (.dup, 1) := by decide +kernel
theorem dX12_init_516 : decode cX12_init 516 = .ok (.bipush 66, 2) := by decide +kernel
theorem dX12_init_518 : decode cX12_init 518 = .ok (.bipush 116, 2) := by decide +kernel
theorem dX12_init_520 : decode cX12_init 520 = .ok (.iastore, 1) := by decide +kernel
theorem dX12_init_521 : decode cX12_init 521 = .ok (.dup, 1) := by decide +kernel
theorem dX12_init_522 : decode cX12_init 522 = .ok (.bipush 67, 2) := by decide +kernel
theorem dX12_init_524 : decode cX12_init 524 = .ok (.bipush 115, 2) := by decide +kernel
theorem dX12_init_526 : decode cX12_init 526 = .ok (.iastore, 1) := by decide +kernel
theorem dX12_init_527 : decode cX12_init 527 = .ok (.dup, 1) := by decide +kernel
theorem dX12_init_528 : decode cX12_init 528 = .ok (.bipush 68, 2) := by decide +kernel
theorem dX12_init_530 : decode cX12_init 530 = .ok (.bipush 32, 2) := by decide +kernel
theorem dX12_init_532 : decode cX12_init 532 = .ok (.iastore, 1) := by decide +kernel
theorem dX12_init_533 : decode cX12_init 533 = .ok (.dup, 1) := by decide +kernel
theorem dX12_init_534 : decode cX12_init 534 = .ok (.bipush 69, 2) := by decide +kernel
theorem dX12_init_536 : decode cX12_init 536 = .ok (.bipush 114, 2) := by decide +kernel
theorem dX12_init_538 : decode cX12_init 538 = .ok (.iastore, 1) := by decide +kernel
theorem dX12_init_539 : decode cX12_init 539 = .ok (.dup, 1) := by decide +kernel
theorem dX12_init_540 : decode cX12_init 540 = .ok (.bipush 70, 2) := by decide +kernel
theorem dX12_init_542 : decode cX12_init 542 = .ok (.bipush 117, 2) := by decide +kernel
theorem dX12_init_544 : decode cX12_init 544 = .ok (.iastore, 1) := by decide +kernel
theorem dX12_init_545 : decode cX12_init 545 = .ok (.dup, 1) := by decide +kernel
theorem dX12_init_546 : decode cX12_init 546 = .ok (.bipush 71, 2) := by decide +kernel
theorem dX12_init_548 : decode cX12_init 548 = .ok (.bipush 115, 2) := by decide +kernel
theorem dX12_init_550 : decode cX12_init 550 = .ok (.iastore, 1) := by decide +kernel
theorem dX12_init_551 : decode cX12_init 551 = .ok (.dup, 1) := by decide +kernel
theorem dX12_init_552 : decode cX12_init 552 = .ok (.bipush 72, 2) := by decide +kernel
theorem dX12_init_554 : decode cX12_init 554 = .ok (.bipush 116, 2) := by decide +kernel
theorem dX12_init_556 : decode cX12_init 556 = .ok (.iastore, 1) := by decide +kernel
theorem dX12_init_557 : decode cX12_init 557 = .ok (.dup, 1) := by decide +kernel
theorem dX12_init_558 : decode cX12_init 558 = .ok (.bipush 73, 2) := by decide +kernel
theorem dX12_init_560 : decode cX12_init 560 = .ok (.bipush 32, 2) := by decide +kernel
theorem dX12_init_562 : decode cX12_init 562 = .ok (.iastore, 1) := by decide +kernel
theorem dX12_init_563 : decode cX12_init 563 = .ok (.dup, 1) := by decide +kernel
theorem dX12_init_564 : decode cX12_init 564 = .ok (.bipush 74, 2) := by decide +kernel
theorem dX12_init_566 : decode cX12_init 566 = .ok (.bipush 115, 2) := by decide +kernel
theorem dX12_init_568 : decode cX12_init 568 = .ok (.iastore, 1) := by decide +kernel
theorem dX12_init_569 : decode cX12_init 569 = .ok (.dup, 1) := by decide +kernel
theorem dX12_init_570 : decode cX12_init 570 = .ok (.bipush 75, 2) := by decide +kernel
theorem dX12_init_572 : decode cX12_init 572 = .ok (.bipush 111, 2) := by decide +kernel
theorem dX12_init_574 : decode cX12_init 574 = .ok (.iastore, 1) := by decide +kernel
theorem dX12_init_575 : decode cX12_init 575 = .ok (.dup, 1) := by decide +kernel
theorem dX12_init_576 : decode cX12_init 576 = .ok (.bipush 76, 2) := by decide +kernel
theorem dX12_init_578 : decode cX12_init 578 = .ok (.bipush 102, 2) := by decide +kernel
theorem dX12_init_580 : decode cX12_init 580 = .ok (.iastore, 1) := by decide +kernel
theorem dX12_init_581 : decode cX12_init 581 = .ok (.dup, 1) := by decide +kernel
theorem dX12_init_582 : decode cX12_init 582 = .ok (.bipush 77, 2) := by decide +kernel
theorem dX12_init_584 : decode cX12_init 584 = .ok (.bipush 116, 2) := by decide +kernel
theorem dX12_init_586 : decode cX12_init 586 = .ok (.iastore, 1) := by decide +kernel
theorem dX12_init_587 : decode cX12_init 587 = .ok (.dup, 1) := by decide +kernel
theorem dX12_init_588 : decode cX12_init 588 = .ok (.bipush 78, 2) := by decide +kernel
theorem dX12_init_590 : decode cX12_init 590 = .ok (.bipush 32, 2) := by decide +kernel
theorem dX12_init_592 : decode cX12_init 592 = .ok (.iastore, 1) := by decide +kernel
theorem dX12_init_593 : decode cX12_init 593 = .ok (.dup, 1) := by decide +kernel
theorem dX12_init_594 : decode cX12_init 594 = .ok (.bipush 79, 2) := by decide +kernel
theorem dX12_init_596 : decode cX12_init 596 = .ok (.bipush 98, 2) := by decide +kernel
theorem dX12_init_598 : decode cX12_init 598 = .ok (.iastore, 1) := by decide +kernel
theorem dX12_init_599 : decode cX12_init 599 = .ok (.dup, 1) := by decide +kernel
theorem dX12_init_600 : decode cX12_init 600 = .ok (.bipush 80, 2) := by decide +kernel
theorem dX12_init_602 : decode cX12_init 602 = .ok (.bipush 101, 2) := by decide +kernel
theorem dX12_init_604 : decode cX12_init 604 = .ok (.iastore, 1) := by decide +kernel
theorem dX12_init_605 : decode cX12_init 605 = .ok (.dup, 1) := by decide +kernel
theorem dX12_init_606 : decode cX12_init 606 = .ok (.bipush 81, 2) := by decide +kernel
theorem dX12_init_608 : decode cX12_init 608 = .ok (.bipush 115, 2) := by decide +kernel
theorem dX12_init_610 : decode cX12_init 610 = .ok (.iastore, 1) := by decide +kernel
theorem dX12_init_611 : decode cX12_init 611 = .ok (.dup, 1) := by decide +kernel
theorem dX12_init_612 : decode cX12_init 612 = .ok (.bipush 82, 2) := by decide +kernel
theorem dX12_init_614 : decode cX12_init 614 = .ok (.bipush 116, 2) := by decide +kernel
theorem dX12_init_616 : decode cX12_init 616 = .ok (.iastore, 1) := by decide +kernel
theorem dX12_init_617 : decode cX12_init 617 = .ok (.dup, 1) := by decide +kernel
theorem dX12_init_618 : decode cX12_init 618 = .ok (.bipush 83, 2) := by decide +kernel
theorem dX12_init_620 : decode cX12_init 620 = .ok (.bipush 32, 2) := by decide +kernel
theorem dX12_init_622 : decode cX12_init 622 = .ok (.iastore, 1) := by decide +kernel
theorem dX12_init_623 : decode cX12_init 623 = .ok (.dup, 1) := by decide +kernel
theorem dX12_init_624 : decode cX12_init 624 = .ok (.bipush 84, 2) := by decide +kernel
theorem dX12_init_626 : decode cX12_init 626 = .ok (.bipush 108, 2) := by decide +kernel
theorem dX12_init_628 : decode cX12_init 628 = .ok (.iastore, 1) := by decide +kernel
theorem dX12_init_629 : decode cX12_init 629 = .ok (.dup, 1) := by decide +kernel
theorem dX12_init_630 : decode cX12_init 630 = .ok (.bipush 85, 2) := by decide +kernel
theorem dX12_init_632 : decode cX12_init 632 = .ok (.bipush 111, 2) := by decide +kernel
theorem dX12_init_634 : decode cX12_init 634 = .ok (.iastore, 1) := by decide +kernel
theorem dX12_init_635 : decode cX12_init 635 = .ok (.dup, 1) := by decide +kernel
theorem dX12_init_636 : decode cX12_init 636 = .ok (.bipush 86, 2) := by decide +kernel
theorem dX12_init_638 : decode cX12_init 638 = .ok (.bipush 110, 2) := by decide +kernel
theorem dX12_init_640 : decode cX12_init 640 = .ok (.iastore, 1) := by decide +kernel
theorem dX12_init_641 : decode cX12_init 641 = .ok (.dup, 1) := by decide +kernel
theorem dX12_init_642 : decode cX12_init 642 = .ok (.bipush 87, 2) := by decide +kernel
theorem dX12_init_644 : decode cX12_init 644 = .ok (.bipush 103, 2) := by decide +kernel
theorem dX12_init_646 : decode cX12_init 646 = .ok (.iastore, 1) := by decide +kernel
theorem dX12_init_647 : decode cX12_init 647 = .ok (.dup, 1) := by decide +kernel
theorem dX12_init_648 : decode cX12_init 648 = .ok (.bipush 88, 2) := by decide +kernel
theorem dX12_init_650 : decode cX12_init 650 = .ok (.bipush 101, 2) := by decide +kernel
theorem dX12_init_652 : decode cX12_init 652 = .ok (.iastore, 1) := by decide +kernel
theorem dX12_init_653 : decode cX12_init 653 = .ok (.dup, 1) := by decide +kernel
theorem dX12_init_654 : decode cX12_init 654 = .ok (.bipush 89, 2) := by decide +kernel
theorem dX12_init_656 : decode cX12_init 656 = .ok (.bipush 115, 2) := by decide +kernel
theorem dX12_init_658 : decode cX12_init 658 = .ok (.iastore, 1) := by decide +kernel
theorem dX12_init_659 : decode cX12_init 659 = .ok (.dup, 1) := by decide +kernel
theorem dX12_init_660 : decode cX12_init 660 = .ok (.bipush 90, 2) := by decide +kernel
theorem dX12_init_662 : decode cX12_init 662 = .ok (.bipush 116, 2) := by decide +kernel
theorem dX12_init_664 : decode cX12_init 664 = .ok (.iastore, 1) := by decide +kernel
theorem dX12_init_665 : decode cX12_init 665 = .ok (.dup, 1) := by decide +kernel
theorem dX12_init_666 : decode cX12_init 666 = .ok (.bipush 91, 2) := by decide +kernel
theorem dX12_init_668 : decode cX12_init 668 = .ok (.bipush 32, 2) := by decide +kernel
theorem dX12_init_670 : decode cX12_init 670 = .ok (.iastore, 1) := by decide +kernel
theorem dX12_init_671 : decode cX12_init 671 = .ok (.dup, 1) := by decide +kernel
theorem dX12_init_672 : decode cX12_init 672 = .ok (.bipush 92, 2) := by decide +kernel
theorem dX12_init_674 : decode cX12_init 674 = .ok (.bipush 115, 2) := by decide +kernel
theorem dX12_init_676 : decode cX12_init 676 = .ok (.iastore, 1) := by decide +kernel
theorem dX12_init_677 : decode cX12_init 677 = .ok (.dup, 1) := by decide +kernel
theorem dX12_init_678 : decode cX12_init 678 = .ok (.bipush 93, 2) := by decide +kernel
theorem dX12_init_680 : decode cX12_init 680 = .ok (.bipush 108, 2) := by decide +kernel
theorem dX12_init_682 : decode cX12_init 682 = .ok (.iastore, 1) := by decide +kernel
theorem dX12_init_683 : decode cX12_init 683 = .ok (.dup, 1) := by decide +kernel
theorem dX12_init_684 : decode cX12_init 684 = .ok (.bipush 94, 2) := by decide +kernel
theorem dX12_init_686 : decode cX12_init 686 = .ok (.bipush 105, 2) := by decide +kernel
theorem dX12_init_688 : decode cX12_init 688 = .ok (.iastore, 1) := by decide +kernel
theorem dX12_init_689 : decode cX12_init 689 = .ok (.dup, 1) := by decide +kernel
theorem dX12_init_690 : decode cX12_init 690 = .ok (.bipush 95, 2) := by decide +kernel
theorem dX12_init_692 : decode cX12_init 692 = .ok (.bipush 100, 2) := by decide +kernel
theorem dX12_init_694 : decode cX12_init 694 = .ok (.iastore, 1) := by decide +kernel
theorem dX12_init_695 : decode cX12_init 695 = .ok (.dup, 1) := by decide +kernel
theorem dX12_init_696 : decode cX12_init 696 = .ok (.bipush 96, 2) := by decide +kernel
theorem dX12_init_698 : decode cX12_init 698 = .ok (.bipush 101, 2) := by decide +kernel
theorem dX12_init_700 : decode cX12_init 700 = .ok (.iastore, 1) := by decide +kernel
theorem dX12_init_701 : decode cX12_init 701 = .ok (.dup, 1) := by decide +kernel
theorem dX12_init_702 : decode cX12_init 702 = .ok (.bipush 97, 2) := by decide +kernel
theorem dX12_init_704 : decode cX12_init 704 = .ok (.bipush 32, 2) := by decide +kernel
theorem dX12_init_706 : decode cX12_init 706 = .ok (.iastore, 1) := by decide +kernel
theorem dX12_init_707 : decode cX12_init 707 = .ok (.dup, 1) := by decide +kernel
theorem dX12_init_708 : decode cX12_init 708 = .ok (.bipush 98, 2) := by decide +kernel
theorem dX12_init_710 : decode cX12_init 710 = .ok (.bipush 112, 2) := by decide +kernel
theorem dX12_init_712 : decode cX12_init 712 = .ok (.iastore, 1) := by decide +kernel
theorem dX12_init_713 : decode cX12_init 713 = .ok (.dup, 1) := by decide +kernel
theorem dX12_init_714 : decode cX12_init 714 = .ok (.bipush 99, 2) := by decide +kernel
theorem dX12_init_716 : decode cX12_init 716 = .ok (.bipush 105, 2) := by decide +kernel
theorem dX12_init_718 : decode cX12_init 718 = .ok (.iastore, 1) := by decide +kernel
theorem dX12_init_719 : decode cX12_init 719 = .ok (.dup, 1) := by decide +kernel
theorem dX12_init_720 : decode cX12_init 720 = .ok (.bipush 100, 2) := by decide +kernel
theorem dX12_init_722 : decode cX12_init 722 = .ok (.bipush 101, 2) := by decide +kernel
theorem dX12_init_724 : decode cX12_init 724 = .ok (.iastore, 1) := by decide +kernel
theorem dX12_init_725 : decode cX12_init 725 = .ok (.dup, 1) := by decide +kernel
theorem dX12_init_726 : decode cX12_init 726 = .ok (.bipush 101, 2) := by decide +kernel
theorem dX12_init_728 : decode cX12_init 728 = .ok (.bipush 99, 2) := by decide +kernel
theorem dX12_init_730 : decode cX12_init 730 = .ok (.iastore, 1) := by decide +kernel
theorem dX12_init_731 : decode cX12_init 731 = .ok (.dup, 1) := by decide +kernel
theorem dX12_init_732 : decode cX12_init 732 = .ok (.bipush 102, 2) := by decide +kernel
theorem dX12_init_734 : decode cX12_init 734 = .ok (.bipush 101, 2) := by decide +kernel
theorem dX12_init_736 : decode cX12_init 736 = .ok (.iastore, 1) := by decide +kernel
theorem dX12_init_737 : decode cX12_init 737 = .ok (.dup, 1) := by decide +kernel
theorem dX12_init_738 : decode cX12_init 738 = .ok (.bipush 103, 2) := by decide +kernel
theorem dX12_init_740 : decode cX12_init 740 = .ok (.bipush 115, 2) := by decide +kernel
theorem dX12_init_742 : decode cX12_init 742 = .ok (.iastore, 1) := by decide +kernel
theorem dX12_init_743 : decode cX12_init 743 = .ok (.dup, 1) := by decide +kernel
theorem dX12_init_744 : decode cX12_init 744 = .ok (.bipush 104, 2) := by decide +kernel
theorem dX12_init_746 : decode cX12_init 746 = .ok (.bipush 32, 2) := by decide +kernel
theorem dX12_init_748 : decode cX12_init 748 = .ok (.iastore, 1) := by decide +kernel
theorem dX12_init_749 : decode cX12_init 749 = .ok (.dup, 1) := by decide +kernel
theorem dX12_init_750 : decode cX12_init 750 = .ok (.bipush 105, 2) := by decide +kernel
theorem dX12_init_752 : decode cX12_init 752 = .ok (.bipush 108, 2) := by decide +kernel
theorem dX12_init_754 : decode cX12_init 754 = .ok (.iastore, 1) := by decide +kernel
theorem dX12_init_755 : decode cX12_init 755 = .ok (.dup, 1) := by decide +kernel
theorem dX12_init_756 : decode cX12_init 756 = .ok (.bipush 106, 2) := by decide +kernel
theorem dX12_init_758 : decode cX12_init 758 = .ok (.bipush 97, 2) := by decide +kernel
theorem dX12_init_760 : decode cX12_init 760 = .ok (.iastore, 1) := by decide +kernel
theorem dX12_init_761 : decode cX12_init 761 = .ok (.dup, 1) := by decide +kernel
theorem dX12_init_762 : decode cX12_init 762 = .ok (.bipush 107, 2) := by decide +kernel
theorem dX12_init_764 : decode cX12_init 764 = .ok (.bipush 99, 2) := by decide +kernel
theorem dX12_init_766 : decode cX12_init 766 = .ok (.iastore, 1) := by decide +kernel
theorem dX12_init_767 : decode cX12_init 767 = .ok (.dup, 1) := by decide +kernel
theorem dX12_init_768 : decode cX12_init 768 = .ok (.bipush 108, 2) := by decide +kernel
theorem dX12_init_770 : decode cX12_init 770 = .ok (.bipush 107, 2) := by decide +kernel
theorem dX12_init_772 : decode cX12_init 772 = .ok (.iastore, 1) := by decide +kernel
theorem dX12_init_773 : decode cX12_init 773 = .ok (.dup, 1) := by decide +kernel
theorem dX12_init_774 : decode cX12_init 774 = .ok (.bipush 109, 2) := by decide +kernel
theorem dX12_init_776 : decode cX12_init 776 = .ok (.bipush 32, 2) := by decide +kernel
theorem dX12_init_778 : decode cX12_init 778 = .ok (.iastore, 1) := by decide +kernel
theorem dX12_init_779 : decode cX12_init 779 = .ok (.dup, 1) := by decide +kernel
theorem dX12_init_780 : decode cX12_init 780 = .ok (.bipush 110, 2) := by decide +kernel
theorem dX12_init_782 : decode cX12_init 782 = .ok (.bipush 116, 2) := by decide +kernel
theorem dX12_init_784 : decode cX12_init 784 = .ok (.iastore, 1) := by decide +kernel
theorem dX12_init_785 : decode cX12_init 785 = .ok (.dup, 1) := by decide +kernel
theorem dX12_init_786 : decode cX12_init 786 = .ok (.bipush 111, 2) := by decide +kernel
theorem dX12_init_788 : decode cX12_init 788 = .ok (.bipush 111, 2) := by decide +kernel
theorem dX12_init_790 : decode cX12_init 790 = .ok (.iastore, 1) := by decide +kernel
theorem dX12_init_791 : decode cX12_init 791 = .ok (.dup, 1) := by decide +kernel
theorem dX12_init_792 : decode cX12_init 792 = .ok (.bipush 112, 2) := by decide +kernel
theorem dX12_init_794 : decode cX12_init 794 = .ok (.bipush 108, 2) := by decide +kernel
theorem dX12_init_796 : decode cX12_init 796 = .ok (.iastore, 1) := by decide +kernel
theorem dX12_init_797 : decode cX12_init 797 = .ok (.dup, 1) := by decide +kernel
theorem dX12_init_798 : decode cX12_init 798 = .ok (.bipush 113, 2) := by decide +kernel
theorem dX12_init_800 : decode cX12_init 800 = .ok (.bipush 100, 2) := by decide +kernel
theorem dX12_init_802 : decode cX12_init 802 = .ok (.iastore, 1) := by decide +kernel
theorem dX12_init_803 : decode cX12_init 803 = .ok (.dup, 1) := by decide +kernel
theorem dX12_init_804 : decode cX12_init 804 = .ok (.bipush 114, 2) := by decide +kernel
theorem dX12_init_806 : decode cX12_init 806 = .ok (.bipush 32, 2) := by decide +kernel
theorem dX12_init_808 : decode cX12_init 808 = .ok (.iastore, 1) := by decide +kernel
theorem dX12_init_809 : decode cX12_init 809 = .ok (.putfield 52, 3) := by decide +kernel
theorem dX12_init_812 : decode cX12_init 812 = .ok (.aload_n 0, 1) := by decide +kernel
theorem dX12_init_813 : decode cX12_init 813 = .ok (.bipush 8, 2) := by decide +kernel
theorem dX12_init_815 : decode cX12_init 815 = .ok (.newarray .int, 2) := by decide +kernel
theorem dX12_init_817 : decode cX12_init 817 = .ok (.putfield 55, 3) := by decide +kernel
theorem dX12_init_820 : decode cX12_init 820 = .ok (.aload_n 0, 1) := by decide +kernel
theorem dX12_init_821 : decode cX12_init 821 = .ok (.sipush 128, 3) := by decide +kernel
theorem dX12_init_824 : decode cX12_init 824 = .ok (.newarray .int, 2) := by decide +kernel
theorem dX12_init_826 : decode cX12_init 826 = .ok (.putfield 58, 3) := by decide +kernel
theorem dX12_init_829 : decode cX12_init 829 = .ok (.aload_n 0, 1) := by decide +kernel
theorem dX12_init_830 : decode cX12_init 830 = .ok (.sipush 128, 3) := by decide +kernel
theorem dX12_init_833 : decode cX12_init 833 = .ok (.newarray .int, 2) := by decide +kernel
theorem dX12_init_835 : decode cX12_init 835 = .ok (.putfield 61, 3) := by decide +kernel
theorem dX12_init_838 : decode cX12_init 838 = .ok (.aload_n 0, 1) := by decide +kernel
theorem dX12_init_839 : decode cX12_init 839 = .ok (.sipush 128, 3) := by decide +kernel
theorem dX12_init_842 : decode cX12_init 842 = .ok (.newarray .int, 2) := by decide +kernel
theorem dX12_init_844 : decode cX12_init 844 = .ok (.putfield 64, 3) := by decide +kernel
theorem dX12_init_847 : decode cX12_init 847 = .ok (.aload_n 0, 1) := by decide +kernel
theorem dX12_init_848 : decode cX12_init 848 = .ok (.sipush 128, 3) := by decide +kernel
theorem dX12_init_851 : decode cX12_init 851 = .ok (.newarray .int, 2) := by decide +kernel
theorem dX12_init_853 : decode cX12_init 853 = .ok (.putfield 67, 3) := by decide +kernel
theorem dX12_init_856 : decode cX12_init 856 = .ok (.aload_n 0, 1) := by decide +kernel
theorem dX12_init_857 : decode cX12_init 857 = .ok (.sipush 4800, 3) := by decide +kernel
theorem dX12_init_860 : decode cX12_init 860 = .ok (.newarray .int, 2) := by decide +kernel
theorem dX12_init_862 : decode cX12_init 862 = .ok (.putfield 70, 3) := by decide +kernel
theorem dX12_init_865 : decode cX12_init 865 = .ok (.aload_n 0, 1) := by decide +kernel
theorem dX12_init_866 : decode cX12_init 866 = .ok (.sipush 4800, 3) := by decide +kernel
theorem dX12_init_869 : decode cX12_init 869 = .ok (.newarray .int, 2) := by decide +kernel
theorem dX12_init_871 : decode cX12_init 871 = .ok (.putfield 73, 3) := by decide +kernel
theorem dX12_init_874 : decode cX12_init 874 = .ok (.aload_n 0, 1) := by decide +kernel
theorem dX12_init_875 : decode cX12_init 875 = .ok (.bipush 40, 2) := by decide +kernel
theorem dX12_init_877 : decode cX12_init 877 = .ok (.newarray .int, 2) := by decide +kernel
theorem dX12_init_879 : decode cX12_init 879 = .ok (.putfield 76, 3) := by decide +kernel
theorem dX12_init_882 : decode cX12_init 882 = .ok (.aload_n 0, 1) := by decide +kernel
theorem dX12_init_883 : decode cX12_init 883 = .ok (.iconst (-1), 1) := by decide +kernel
theorem dX12_init_884 : decode cX12_init 884 = .ok (.putfield 79, 3) := by decide +kernel
theorem dX12_init_887 : decode cX12_init 887 = .ok (.aload_n 0, 1) := by decide +kernel
theorem dX12_init_888 : decode cX12_init 888 = .ok (.bipush 14, 2) := by decide +kernel
theorem dX12_init_890 : decode cX12_init 890 = .ok (.newarray .int, 2) := by decide +kernel
theorem dX12_init_892 : decode cX12_init 892 = .ok (.putfield 83, 3) := by decide +kernel
theorem dX12_init_895 : decode cX12_init 895 = .ok (.aload_n 0, 1) := by decide +kernel
theorem dX12_init_896 : decode cX12_init 896 = .ok (.sipush 620, 3) := by decide +kernel
theorem dX12_init_899 : decode cX12_init 899 = .ok (.newarray .int, 2) := by decide +kernel
theorem dX12_init_901 : decode cX12_init 901 = .ok (.putfield 86, 3) := by decide +kernel
theorem dX12_init_904 : decode cX12_init 904 = .ok (.aload_n 0, 1) := by decide +kernel
theorem dX12_init_905 : decode cX12_init 905 = .ok (.bipush 32, 2) := by decide +kernel
theorem dX12_init_907 : decode cX12_init 907 = .ok (.newarray .int, 2) := by decide +kernel
theorem dX12_init_909 : decode cX12_init 909 = .ok (.putfield 89, 3) := by decide +kernel
theorem dX12_init_912 : decode cX12_init 912 = .ok (.aload_n 0, 1) := by decide +kernel
theorem dX12_init_913 : decode cX12_init 913 = .ok (.bipush 6, 2) := by decide +kernel
theorem dX12_init_915 : decode cX12_init 915 = .ok (.newarray .int, 2) := by decide +kernel
theorem dX12_init_917 : decode cX12_init 917 = .ok (.putfield 92, 3) := by decide +kernel
theorem dX12_init_920 : decode cX12_init 920 = .ok (.aload_n 0, 1) := by decide +kernel
theorem dX12_init_921 : decode cX12_init 921 = .ok (.sipush 128, 3) := by decide +kernel
theorem dX12_init_924 : decode cX12_init 924 = .ok (.newarray .int, 2) := by decide +kernel
theorem dX12_init_926 : decode cX12_init 926 = .ok (.putfield 95, 3) := by decide +kernel
theorem dX12_init_929 : decode cX12_init 929 = .ok (.aload_n 0, 1) := by decide +kernel
theorem dX12_init_930 : decode cX12_init 930 = .ok (.sipush 128, 3) := by decide +kernel
theorem dX12_init_933 : decode cX12_init 933 = .ok (.newarray .int, 2) := by decide +kernel
theorem dX12_init_935 : decode cX12_init 935 = .ok (.putfield 98, 3) := by decide +kernel
theorem dX12_init_938 : decode cX12_init 938 = .ok (.aload_n 0, 1) := by decide +kernel
theorem dX12_init_939 : decode cX12_init 939 = .ok (.iconst (-1), 1) := by decide +kernel
theorem dX12_init_940 : decode cX12_init 940 = .ok (.putfield 101, 3) := by decide +kernel
theorem dX12_init_943 : decode cX12_init 943 = .ok (.aload_n 0, 1) := by decide +kernel
theorem dX12_init_944 : decode cX12_init 944 = .ok (.sipush 19200, 3) := by decide +kernel
theorem dX12_init_947 : decode cX12_init 947 = .ok (.newarray .int, 2) := by decide +kernel
theorem dX12_init_949 : decode cX12_init 949 = .ok (.putfield 104, 3) := by decide +kernel
theorem dX12_init_952 : decode cX12_init 952 = .ok (.aload_n 0, 1) := by decide +kernel
theorem dX12_init_953 : decode cX12_init 953 = .ok (.sipush 9600, 3) := by decide +kernel
theorem dX12_init_956 : decode cX12_init 956 = .ok (.newarray .int, 2) := by decide +kernel
theorem dX12_init_958 : decode cX12_init 958 = .ok (.putfield 107, 3) := by decide +kernel
theorem dX12_init_961 : decode cX12_init 961 = .ok (.aload_n 0, 1) := by decide +kernel
theorem dX12_init_962 : decode cX12_init 962 = .ok (.bipush 40, 2) := by decide +kernel
theorem dX12_init_964 : decode cX12_init 964 = .ok (.newarray .int, 2) := by decide +kernel
theorem dX12_init_966 : decode cX12_init 966 = .ok (.putfield 110, 3) := by decide +kernel
theorem dX12_init_969 : decode cX12_init 969 = .ok (.aload_n 0, 1) := by decide +kernel
theorem dX12_init_970 : decode cX12_init 970 = .ok (.bipush 10, 2) := by decide +kernel
theorem dX12_init_972 : decode cX12_init 972 = .ok (.newarray .int, 2) := by decide +kernel
theorem dX12_init_974 : decode cX12_init 974 = .ok (.putfield 113, 3) := by decide +kernel
theorem dX12_init_977 : decode cX12_init 977 = .ok (.aload_n 0, 1) := by decide +kernel
theorem dX12_init_978 : decode cX12_init 978 = .ok (.bipush 10, 2) := by decide +kernel
theorem dX12_init_980 : decode cX12_init 980 = .ok (.newarray .int, 2) := by decide +kernel
theorem dX12_init_982 : decode cX12_init 982 = .ok (.putfield 116, 3) := by decide +kernel
theorem dX12_init_985 : decode cX12_init 985 = .ok (.aload_n 0, 1) := by decide +kernel
theorem dX12_init_986 : decode cX12_init 986 = .ok (.bipush 10, 2) := by decide +kernel
theorem dX12_init_988 : decode cX12_init 988 = .ok (.newarray .int, 2) := by decide +kernel
theorem dX12_init_990 : decode cX12_init 990 = .ok (.putfield 119, 3) := by decide +kernel
theorem dX12_init_993 : decode cX12_init 993 = .ok (.aload_n 0, 1) := by decide +kernel
theorem dX12_init_994 : decode cX12_init 994 = .ok (.bipush 6, 2) := by decide +kernel
theorem dX12_init_996 : decode cX12_init 996 = .ok (.newarray .int, 2) := by decide +kernel
theorem dX12_init_998 : decode cX12_init 998 = .ok (.putfield 122, 3) := by decide +kernel
theorem dX12_init_1001 : decode cX12_init 1001 = .ok (.aload_n 0, 1) := by decide +kernel
theorem dX12_init_1002 : decode cX12_init 1002 = .ok (.bipush 8, 2) := by decide +kernel
theorem dX12_init_1004 : decode cX12_init 1004 = .ok (.newarray .long, 2) := by decide +kernel
theorem dX12_init_1006 : decode cX12_init 1006 = .ok (.putfield 125, 3) := by decide +kernel
theorem dX12_init_1009 : decode cX12_init 1009 = .ok (.aload_n 0, 1) := by decide +kernel
theorem dX12_init_1010 : decode cX12_init 1010 = .ok (.bipush 8, 2) := by decide +kernel
theorem dX12_init_1012 : decode cX12_init 1012 = .ok (.newarray .int, 2) := by decide +kernel
theorem dX12_init_1014 : decode cX12_init 1014 = .ok (.putfield 129, 3) := by decide +kernel
theorem dX12_init_1017 : decode cX12_init 1017 = .ok (.return_, 1) := by decide +kernel
theorem dX12_isIn_0 : decode cX12_isIn 0 = .ok (.iload_n 1, 1) := by decide +kernel
theorem dX12_isIn_1 : decode cX12_isIn 1 = .ok (.iload_n 2, 1) := by decide +kernel
theorem dX12_isIn_2 : decode cX12_isIn 2 = .ok (.if_icmp .lt 12, 3) := by decide +kernel
theorem dX12_isIn_5 : decode cX12_isIn 5 = .ok (.iload_n 1, 1) := by decide +kernel
theorem dX12_isIn_6 : decode cX12_isIn 6 = .ok (.iload_n 3, 1) := by decide +kernel
theorem dX12_isIn_7 : decode cX12_isIn 7 = .ok (.if_icmp .gt 7, 3) := by decide +kernel
theorem dX12_isIn_10 : decode cX12_isIn 10 = .ok (.iconst 1, 1) := by decide +kernel
theorem dX12_isIn_11 : decode cX12_isIn 11 = .ok (.goto 4, 3) := by decide +kernel
theorem dX12_isIn_14 : decode cX12_isIn 14 = .ok (.iconst 0, 1) := by decide +kernel
theorem dX12_isIn_15 : decode cX12_isIn 15 = .ok (.ireturn, 1) := by decide +kernel
theorem dX12_isTool_0 : decode cX12_isTool 0 = .ok (.iload_n 1, 1) := by decide +kernel
theorem dX12_isTool_1 : decode cX12_isTool 1 = .ok (.ifCond .lt 15, 3) := by decide +kernel
theorem dX12_isTool_4 : decode cX12_isTool 4 = .ok (.iload_n 1, 1) := by decide +kernel
theorem dX12_isTool_5 : decode cX12_isTool 5 = .ok (.aload_n 0, 1) := by decide +kernel
theorem dX12_isTool_6 : decode cX12_isTool 6 = .ok (.getfield 135, 3) := by decide +kernel
theorem dX12_isTool_9 : decode cX12_isTool 9 = .ok (.if_icmp .ge 7, 3) := by decide +kernel
theorem dX12_isTool_12 : decode cX12_isTool 12 = .ok (.iconst 1, 1) := by decide +kernel
theorem dX12_isTool_13 : decode cX12_isTool 13 = .ok (.goto 4, 3) := by decide +kernel
theorem dX12_isTool_16 : decode cX12_isTool 16 = .ok (.iconst 0, 1) := by decide +kernel
theorem dX12_isTool_17 : decode cX12_isTool 17 = .ok (.ireturn, 1) := by decide +kernel
theorem dX12_isBarrel_0 : decode cX12_isBarrel 0 = .ok (.iload_n 1, 1) := by decide +kernel
theorem dX12_isBarrel_1 : decode cX12_isBarrel 1 = .ok (.ifCond .lt 15, 3) := by decide +kernel
theorem dX12_isBarrel_4 : decode cX12_isBarrel 4 = .ok (.iload_n 1, 1) := by decide +kernel
theorem dX12_isBarrel_5 : decode cX12_isBarrel 5 = .ok (.aload_n 0, 1) := by decide +kernel
theorem dX12_isBarrel_6 : decode cX12_isBarrel 6 = .ok (.getfield 138, 3) := by decide +kernel
theorem dX12_isBarrel_9 : decode cX12_isBarrel 9 = .ok (.if_icmp .ge 7, 3) := by decide +kernel
theorem dX12_isBarrel_12 : decode cX12_isBarrel 12 = .ok (.iconst 1, 1) := by decide +kernel
theorem dX12_isBarrel_13 : decode cX12_isBarrel 13 = .ok (.goto 4, 3) := by decide +kernel
theorem dX12_isBarrel_16 : decode cX12_isBarrel 16 = .ok (.iconst 0, 1) := by decide +kernel
theorem dX12_isBarrel_17 : decode cX12_isBarrel 17 = .ok (.ireturn, 1) := by decide +kernel
theorem dX12_isBall_0 : decode cX12_isBall 0 = .ok (.iload_n 1, 1) := by decide +kernel
theorem dX12_isBall_1 : decode cX12_isBall 1 = .ok (.ifCond .lt 15, 3) := by decide +kernel
theorem dX12_isBall_4 : decode cX12_isBall 4 = .ok (.iload_n 1, 1) := by decide +kernel
theorem dX12_isBall_5 : decode cX12_isBall 5 = .ok (.aload_n 0, 1) := by decide +kernel
theorem dX12_isBall_6 : decode cX12_isBall 6 = .ok (.getfield 141, 3) := by decide +kernel
theorem dX12_isBall_9 : decode cX12_isBall 9 = .ok (.if_icmp .ge 7, 3) := by decide +kernel
theorem dX12_isBall_12 : decode cX12_isBall 12 = .ok (.iconst 1, 1) := by decide +kernel
theorem dX12_isBall_13 : decode cX12_isBall 13 = .ok (.goto 4, 3) := by decide +kernel
theorem dX12_isBall_16 : decode cX12_isBall 16 = .ok (.iconst 0, 1) := by decide +kernel
theorem dX12_isBall_17 : decode cX12_isBall 17 = .ok (.ireturn, 1) := by decide +kernel
theorem dX12_isHair_0 : decode cX12_isHair 0 = .ok (.aload_n 0, 1) := by decide +kernel
theorem dX12_isHair_1 : decode cX12_isHair 1 = .ok (.iload_n 1, 1) := by decide +kernel
theorem dX12_isHair_2 : decode cX12_isHair 2 = .ok (.iconst 0, 1) := by decide +kernel
theorem dX12_isHair_3 : decode cX12_isHair 3 = .ok (.bipush 31, 2) := by decide +kernel
theorem dX12_isHair_5 : decode cX12_isHair 5 = .ok (.invokevirtual 144, 3) := by decide +kernel
theorem dX12_isHair_8 : decode cX12_isHair 8 = .ok (.ireturn, 1) := by decide +kernel
theorem dX12_tool_0 : decode cX12_tool 0 = .ok (.aload_n 0, 1) := by decide +kernel
theorem dX12_tool_1 : decode cX12_tool 1 = .ok (.iconst 0, 1) := by decide +kernel
theorem dX12_tool_2 : decode cX12_tool 2 = .ok (.putfield 132, 3) := by decide +kernel
theorem dX12_tool_5 : decode cX12_tool 5 = .ok (.aload_n 0, 1) := by decide +kernel
theorem dX12_tool_6 : decode cX12_tool 6 = .ok (.getfield 135, 3) := by decide +kernel
theorem dX12_tool_9 : decode cX12_tool 9 = .ok (.bipush 6, 2) := by decide +kernel
theorem dX12_tool_11 : decode cX12_tool 11 = .ok (.if_icmp .ne 5, 3) := by decide +kernel
theorem dX12_tool_14 : decode cX12_tool 14 = .ok (.iconst (-1), 1) := by decide +kernel
theorem dX12_tool_15 : decode cX12_tool 15 = .ok (.ireturn, 1) := by decide +kernel
theorem dX12_tool_16 : decode cX12_tool 16 = .ok (.iconst 0, 1) := by decide +kernel
theorem dX12_tool_17 : decode cX12_tool 17 = .ok (.istore_n 2, 1) := by decide +kernel
theorem dX12_tool_18 : decode cX12_tool 18 = .ok (.iload_n 2, 1) := by decide +kernel
theorem dX12_tool_19 : decode cX12_tool 19 = .ok (.bipush 32, 2) := by decide +kernel
theorem dX12_tool_21 : decode cX12_tool 21 = .ok (.if_icmp .ge 25, 3) := by decide +kernel
theorem dX12_tool_24 : decode cX12_tool 24 = .ok (.aload_n 0, 1) := by decide +kernel
theorem dX12_tool_25 : decode cX12_tool 25 = .ok (.getfield 7, 3) := by decide +kernel
theorem dX12_tool_28 : decode cX12_tool 28 = .ok (.bipush 32, 2) := by decide +kernel
theorem dX12_tool_30 : decode cX12_tool 30 = .ok (.aload_n 0, 1) := by decide +kernel
theorem dX12_tool_31 : decode cX12_tool 31 = .ok (.getfield 135, 3) := by decide +kernel
theorem dX12_tool_34 : decode cX12_tool 34 = .ok (.imul, 1) := by decide +kernel
theorem dX12_tool_35 : decode cX12_tool 35 = .ok (.iload_n 2, 1) := by decide +kernel
theorem dX12_tool_36 : decode cX12_tool 36 = .ok (.iadd, 1) := by decide +kernel
theorem dX12_tool_37 : decode cX12_tool 37 = .ok (.bipush 32, 2) := by decide +kernel
theorem dX12_tool_39 : decode cX12_tool 39 = .ok (.iastore, 1) := by decide +kernel
theorem dX12_tool_40 : decode cX12_tool 40 = .ok (.iinc 2 1, 3) := by decide +kernel
theorem dX12_tool_43 : decode cX12_tool 43 = .ok (.goto (-25), 3) := by decide +kernel
theorem dX12_tool_46 : decode cX12_tool 46 = .ok (.aload_n 0, 1) := by decide +kernel
theorem dX12_tool_47 : decode cX12_tool 47 = .ok (.getfield 13, 3) := by decide +kernel
theorem dX12_tool_50 : decode cX12_tool 50 = .ok (.aload_n 0, 1) := by decide +kernel
theorem dX12_tool_51 : decode cX12_tool 51 = .ok (.getfield 135, 3) := by decide +kernel
theorem dX12_tool_54 : decode cX12_tool 54 = .ok (.iload_n 1, 1) := by decide +kernel
theorem dX12_tool_55 : decode cX12_tool 55 = .ok (.iastore, 1) := by decide +kernel
theorem dX12_tool_56 : decode cX12_tool 56 = .ok (.aload_n 0, 1) := by decide +kernel
theorem dX12_tool_57 : decode cX12_tool 57 = .ok (.aload_n 0, 1) := by decide +kernel
theorem dX12_tool_58 : decode cX12_tool 58 = .ok (.getfield 135, 3) := by decide +kernel
theorem dX12_tool_61 : decode cX12_tool 61 = .ok (.iconst 1, 1) := by decide +kernel
theorem dX12_tool_62 : decode cX12_tool 62 = .ok (.iadd, 1) := by decide +kernel
theorem dX12_tool_63 : decode cX12_tool 63 = .ok (.putfield 135, 3) := by decide +kernel
theorem dX12_tool_66 : decode cX12_tool 66 = .ok (.aload_n 0, 1) := by decide +kernel
theorem dX12_tool_67 : decode cX12_tool 67 = .ok (.getfield 135, 3) := by decide +kernel
theorem dX12_tool_70 : decode cX12_tool 70 = .ok (.iconst 1, 1) := by decide +kernel
theorem dX12_tool_71 : decode cX12_tool 71 = .ok (.isub, 1) := by decide +kernel
theorem dX12_tool_72 : decode cX12_tool 72 = .ok (.ireturn, 1) := by decide +kernel
theorem dX12_edge_0 : decode cX12_edge 0 = .ok (.aload_n 0, 1) := by decide +kernel
theorem dX12_edge_1 : decode cX12_edge 1 = .ok (.iconst 0, 1) := by decide +kernel
theorem dX12_edge_2 : decode cX12_edge 2 = .ok (.putfield 132, 3) := by decide +kernel
theorem dX12_edge_5 : decode cX12_edge 5 = .ok (.aload_n 0, 1) := by decide +kernel
theorem dX12_edge_6 : decode cX12_edge 6 = .ok (.iload_n 1, 1) := by decide +kernel
theorem dX12_edge_7 : decode cX12_edge 7 = .ok (.invokevirtual 148, 3) := by decide +kernel
theorem dX12_edge_10 : decode cX12_edge 10 = .ok (.ifCond .eq 22, 3) := by decide +kernel
theorem dX12_edge_13 : decode cX12_edge 13 = .ok (.aload_n 0, 1) := by decide +kernel
theorem dX12_edge_14 : decode cX12_edge 14 = .ok (.iload_n 2, 1) := by decide +kernel
theorem dX12_edge_15 : decode cX12_edge 15 = .ok (.invokevirtual 152, 3) := by decide +kernel
theorem dX12_edge_18 : decode cX12_edge 18 = .ok (.ifCond .eq 14, 3) := by decide +kernel
theorem dX12_edge_21 : decode cX12_edge 21 = .ok (.aload_n 0, 1) := by decide +kernel
theorem dX12_edge_22 : decode cX12_edge 22 = .ok (.iload_n 3, 1) := by decide +kernel
theorem dX12_edge_23 : decode cX12_edge 23 = .ok (.iconst 0, 1) := by decide +kernel
theorem dX12_edge_24 : decode cX12_edge 24 = .ok (.bipush 63, 2) := by decide +kernel
theorem dX12_edge_26 : decode cX12_edge 26 = .ok (.invokevirtual 144, 3) := by decide +kernel
theorem dX12_edge_29 : decode cX12_edge 29 = .ok (.ifCond .ne 5, 3) := by decide +kernel
theorem dX12_edge_32 : decode cX12_edge 32 = .ok (.iconst 0, 1) := by decide +kernel
theorem dX12_edge_33 : decode cX12_edge 33 = .ok (.ireturn, 1) := by decide +kernel
theorem dX12_edge_34 : decode cX12_edge 34 = .ok (.aload_n 0, 1) := by decide +kernel
theorem dX12_edge_35 : decode cX12_edge 35 = .ok (.getfield 7, 3) := by decide +kernel
theorem dX12_edge_38 : decode cX12_edge 38 = .ok (.bipush 32, 2) := by decide +kernel
theorem dX12_edge_40 : decode cX12_edge 40 = .ok (.iload_n 1, 1) := by decide +kernel
theorem dX12_edge_41 : decode cX12_edge 41 = .ok (.imul, 1) := by decide +kernel
theorem dX12_edge_42 : decode cX12_edge 42 = .ok (.iload_n 2, 1) := by decide +kernel
theorem dX12_edge_43 : decode cX12_edge 43 = .ok (.iadd, 1) := by decide +kernel
theorem dX12_edge_44 : decode cX12_edge 44 = .ok (.iload_n 3, 1) := by decide +kernel
theorem dX12_edge_45 : decode cX12_edge 45 = .ok (.iastore, 1) := by decide +kernel
theorem dX12_edge_46 : decode cX12_edge 46 = .ok (.iconst 1, 1) := by decide +kernel
theorem dX12_edge_47 : decode cX12_edge 47 = .ok (.ireturn, 1) := by decide +kernel
theorem dX12_barrel_0 : decode cX12_barrel 0 = .ok (.aload_n 0, 1) := by decide +kernel
theorem dX12_barrel_1 : decode cX12_barrel 1 = .ok (.iconst 0, 1) := by decide +kernel
theorem dX12_barrel_2 : decode cX12_barrel 2 = .ok (.putfield 132, 3) := by decide +kernel
theorem dX12_barrel_5 : decode cX12_barrel 5 = .ok (.aload_n 0, 1) := by decide +kernel
theorem dX12_barrel_6 : decode cX12_barrel 6 = .ok (.iload_n 1, 1) := by decide +kernel
theorem dX12_barrel_7 : decode cX12_barrel 7 = .ok (.invokevirtual 148, 3) := by decide +kernel
theorem dX12_barrel_10 : decode cX12_barrel 10 = .ok (.ifCond .eq 12, 3) := by decide +kernel
theorem dX12_barrel_13 : decode cX12_barrel 13 = .ok (.aload_n 0, 1) := by decide +kernel
theorem dX12_barrel_14 : decode cX12_barrel 14 = .ok (.getfield 138, 3) := by decide +kernel
theorem dX12_barrel_17 : decode cX12_barrel 17 = .ok (.bipush 16, 2) := by decide +kernel
theorem dX12_barrel_19 : decode cX12_barrel 19 = .ok (.if_icmp .ne 5, 3) := by decide +kernel
theorem dX12_barrel_22 : decode cX12_barrel 22 = .ok (.iconst (-1), 1) := by decide +kernel
theorem dX12_barrel_23 : decode cX12_barrel 23 = .ok (.ireturn, 1) := by decide +kernel
theorem dX12_barrel_24 : decode cX12_barrel 24 = .ok (.aload_n 0, 1) := by decide +kernel
theorem dX12_barrel_25 : decode cX12_barrel 25 = .ok (.getfield 138, 3) := by decide +kernel
theorem dX12_barrel_28 : decode cX12_barrel 28 = .ok (.istore_n 2, 1) := by decide +kernel
theorem dX12_barrel_29 : decode cX12_barrel 29 = .ok (.iconst 0, 1) := by decide +kernel
theorem dX12_barrel_30 : decode cX12_barrel 30 = .ok (.istore_n 3, 1) := by decide +kernel
theorem dX12_barrel_31 : decode cX12_barrel 31 = .ok (.iload_n 3, 1) := by decide +kernel
theorem dX12_barrel_32 : decode cX12_barrel 32 = .ok (.bipush 32, 2) := by decide +kernel
theorem dX12_barrel_34 : decode cX12_barrel 34 = .ok (.if_icmp .ge 31, 3) := by decide +kernel
theorem dX12_barrel_37 : decode cX12_barrel 37 = .ok (.aload_n 0, 1) := by decide +kernel
theorem dX12_barrel_38 : decode cX12_barrel 38 = .ok (.getfield 19, 3) := by decide +kernel
theorem dX12_barrel_41 : decode cX12_barrel 41 = .ok (.bipush 32, 2) := by decide +kernel
theorem dX12_barrel_43 : decode cX12_barrel 43 = .ok (.iload_n 2, 1) := by decide +kernel
theorem dX12_barrel_44 : decode cX12_barrel 44 = .ok (.imul, 1) := by decide +kernel
theorem dX12_barrel_45 : decode cX12_barrel 45 = .ok (.iload_n 3, 1) := by decide +kernel
theorem dX12_barrel_46 : decode cX12_barrel 46 = .ok (.iadd, 1) := by decide +kernel
theorem dX12_barrel_47 : decode cX12_barrel 47 = .ok (.aload_n 0, 1) := by decide +kernel
theorem dX12_barrel_48 : decode cX12_barrel 48 = .ok (.getfield 7, 3) := by decide +kernel
theorem dX12_barrel_51 : decode cX12_barrel 51 = .ok (.bipush 32, 2) := by decide +kernel
theorem dX12_barrel_53 : decode cX12_barrel 53 = .ok (.iload_n 1, 1) := by decide +kernel
theorem dX12_barrel_54 : decode cX12_barrel 54 = .ok (.imul, 1) := by decide +kernel
theorem dX12_barrel_55 : decode cX12_barrel 55 = .ok (.iload_n 3, 1) := by decide +kernel
theorem dX12_barrel_56 : decode cX12_barrel 56 = .ok (.iadd, 1) := by decide +kernel
theorem dX12_barrel_57 : decode cX12_barrel 57 = .ok (.iaload, 1) := by decide +kernel
theorem dX12_barrel_58 : decode cX12_barrel 58 = .ok (.iastore, 1) := by decide +kernel
theorem dX12_barrel_59 : decode cX12_barrel 59 = .ok (.iinc 3 1, 3) := by decide +kernel
theorem dX12_barrel_62 : decode cX12_barrel 62 = .ok (.goto (-31), 3) := by decide +kernel
theorem dX12_barrel_65 : decode cX12_barrel 65 = .ok (.aload_n 0, 1) := by decide +kernel
theorem dX12_barrel_66 : decode cX12_barrel 66 = .ok (.getfield 22, 3) := by decide +kernel
theorem dX12_barrel_69 : decode cX12_barrel 69 = .ok (.iload_n 2, 1) := by decide +kernel
theorem dX12_barrel_70 : decode cX12_barrel 70 = .ok (.aload_n 0, 1) := by decide +kernel
theorem dX12_barrel_71 : decode cX12_barrel 71 = .ok (.getfield 13, 3) := by decide +kernel
theorem dX12_barrel_74 : decode cX12_barrel 74 = .ok (.iload_n 1, 1) := by decide +kernel
theorem dX12_barrel_75 : decode cX12_barrel 75 = .ok (.iaload, 1) := by decide +kernel
theorem dX12_barrel_76 : decode cX12_barrel 76 = .ok (.iastore, 1) := by decide +kernel
theorem dX12_barrel_77 : decode cX12_barrel 77 = .ok (.aload_n 0, 1) := by decide +kernel
theorem dX12_barrel_78 : decode cX12_barrel 78 = .ok (.getfield 25, 3) := by decide +kernel
theorem dX12_barrel_81 : decode cX12_barrel 81 = .ok (.iload_n 2, 1) := by decide +kernel
theorem dX12_barrel_82 : decode cX12_barrel 82 = .ok (.iload_n 1, 1) := by decide +kernel
theorem dX12_barrel_83 : decode cX12_barrel 83 = .ok (.iastore, 1) := by decide +kernel
theorem dX12_barrel_84 : decode cX12_barrel 84 = .ok (.aload_n 0, 1) := by decide +kernel
theorem dX12_barrel_85 : decode cX12_barrel 85 = .ok (.getfield 28, 3) := by decide +kernel
theorem dX12_barrel_88 : decode cX12_barrel 88 = .ok (.iload_n 2, 1) := by decide +kernel
theorem dX12_barrel_89 : decode cX12_barrel 89 = .ok (.aload_n 0, 1) := by decide +kernel
theorem dX12_barrel_90 : decode cX12_barrel 90 = .ok (.getfield 16, 3) := by decide +kernel
theorem dX12_barrel_93 : decode cX12_barrel 93 = .ok (.iload_n 1, 1) := by decide +kernel
theorem dX12_barrel_94 : decode cX12_barrel 94 = .ok (.iaload, 1) := by decide +kernel
theorem dX12_barrel_95 : decode cX12_barrel 95 = .ok (.iastore, 1) := by decide +kernel
theorem dX12_barrel_96 : decode cX12_barrel 96 = .ok (.aload_n 0, 1) := by decide +kernel
theorem dX12_barrel_97 : decode cX12_barrel 97 = .ok (.getfield 31, 3) := by decide +kernel
theorem dX12_barrel_100 : decode cX12_barrel 100 = .ok (.iload_n 2, 1) := by decide +kernel
theorem dX12_barrel_101 : decode cX12_barrel 101 = .ok (.iconst 0, 1) := by decide +kernel
theorem dX12_barrel_102 : decode cX12_barrel 102 = .ok (.iastore, 1) := by decide +kernel
theorem dX12_barrel_103 : decode cX12_barrel 103 = .ok (.aload_n 0, 1) := by decide +kernel
theorem dX12_barrel_104 : decode cX12_barrel 104 = .ok (.getfield 34, 3) := by decide +kernel
theorem dX12_barrel_107 : decode cX12_barrel 107 = .ok (.iload_n 2, 1) := by decide +kernel
theorem dX12_barrel_108 : decode cX12_barrel 108 = .ok (.iconst 0, 1) := by decide +kernel
theorem dX12_barrel_109 : decode cX12_barrel 109 = .ok (.iastore, 1) := by decide +kernel
theorem dX12_barrel_110 : decode cX12_barrel 110 = .ok (.aload_n 0, 1) := by decide +kernel
theorem dX12_barrel_111 : decode cX12_barrel 111 = .ok (.getfield 16, 3) := by decide +kernel
theorem dX12_barrel_114 : decode cX12_barrel 114 = .ok (.iload_n 1, 1) := by decide +kernel
theorem dX12_barrel_115 : decode cX12_barrel 115 = .ok (.aload_n 0, 1) := by decide +kernel
theorem dX12_barrel_116 : decode cX12_barrel 116 = .ok (.getfield 16, 3) := by decide +kernel
theorem dX12_barrel_119 : decode cX12_barrel 119 = .ok (.iload_n 1, 1) := by decide +kernel
theorem dX12_barrel_120 : decode cX12_barrel 120 = .ok (.iaload, 1) := by decide +kernel
theorem dX12_barrel_121 : decode cX12_barrel 121 = .ok (.iconst 1, 1) := by decide +kernel
theorem dX12_barrel_122 : decode cX12_barrel 122 = .ok (.iadd, 1) := by decide +kernel
theorem dX12_barrel_123 : decode cX12_barrel 123 = .ok (.iastore, 1) := by decide +kernel
theorem dX12_barrel_124 : decode cX12_barrel 124 = .ok (.aload_n 0, 1) := by decide +kernel
theorem dX12_barrel_125 : decode cX12_barrel 125 = .ok (.getfield 83, 3) := by decide +kernel
theorem dX12_barrel_128 : decode cX12_barrel 128 = .ok (.iconst 5, 1) := by decide +kernel
theorem dX12_barrel_129 : decode cX12_barrel 129 = .ok (.aload_n 0, 1) := by decide +kernel
theorem dX12_barrel_130 : decode cX12_barrel 130 = .ok (.getfield 16, 3) := by decide +kernel
theorem dX12_barrel_133 : decode cX12_barrel 133 = .ok (.iload_n 1, 1) := by decide +kernel
theorem dX12_barrel_134 : decode cX12_barrel 134 = .ok (.iaload, 1) := by decide +kernel
theorem dX12_barrel_135 : decode cX12_barrel 135 = .ok (.iastore, 1) := by decide +kernel
theorem dX12_barrel_136 : decode cX12_barrel 136 = .ok (.aload_n 0, 1) := by decide +kernel
theorem dX12_barrel_137 : decode cX12_barrel 137 = .ok (.getfield 83, 3) := by decide +kernel
theorem dX12_barrel_140 : decode cX12_barrel 140 = .ok (.bipush 6, 2) := by decide +kernel
theorem dX12_barrel_142 : decode cX12_barrel 142 = .ok (.iconst 0, 1) := by decide +kernel
theorem dX12_barrel_143 : decode cX12_barrel 143 = .ok (.iastore, 1) := by decide +kernel
theorem dX12_barrel_144 : decode cX12_barrel 144 = .ok (.aload_n 0, 1) := by decide +kernel
theorem dX12_barrel_145 : decode cX12_barrel 145 = .ok (.getfield 83, 3) := by decide +kernel
theorem dX12_barrel_148 : decode cX12_barrel 148 = .ok (.bipush 7, 2) := by decide +kernel
theorem dX12_barrel_150 : decode cX12_barrel 150 = .ok (.iconst 0, 1) := by decide +kernel
theorem dX12_barrel_151 : decode cX12_barrel 151 = .ok (.iastore, 1) := by decide +kernel
theorem dX12_barrel_152 : decode cX12_barrel 152 = .ok (.aload_n 0, 1) := by decide +kernel
theorem dX12_barrel_153 : decode cX12_barrel 153 = .ok (.aload_n 0, 1) := by decide +kernel
theorem dX12_barrel_154 : decode cX12_barrel 154 = .ok (.getfield 13, 3) := by decide +kernel
theorem dX12_barrel_157 : decode cX12_barrel 157 = .ok (.iload_n 1, 1) := by decide +kernel
theorem dX12_barrel_158 : decode cX12_barrel 158 = .ok (.iaload, 1) := by decide +kernel
theorem dX12_barrel_159 : decode cX12_barrel 159 = .ok (.putfield 155, 3) := by decide +kernel
theorem dX12_barrel_162 : decode cX12_barrel 162 = .ok (.aload_n 0, 1) := by decide +kernel
theorem dX12_barrel_163 : decode cX12_barrel 163 = .ok (.aload_n 0, 1) := by decide +kernel
theorem dX12_barrel_164 : decode cX12_barrel 164 = .ok (.getfield 7, 3) := by decide +kernel
theorem dX12_barrel_167 : decode cX12_barrel 167 = .ok (.bipush 32, 2) := by decide +kernel
theorem dX12_barrel_169 : decode cX12_barrel 169 = .ok (.iload_n 1, 1) := by decide +kernel
theorem dX12_barrel_170 : decode cX12_barrel 170 = .ok (.imul, 1) := by decide +kernel
theorem dX12_barrel_171 : decode cX12_barrel 171 = .ok (.iconst 0, 1) := by decide +kernel
theorem dX12_barrel_172 : decode cX12_barrel 172 = .ok (.invokevirtual 158, 3) := by decide +kernel
theorem dX12_barrel_175 : decode cX12_barrel 175 = .ok (.iconst 0, 1) := by decide +kernel
theorem dX12_barrel_176 : decode cX12_barrel 176 = .ok (.istore_n 3, 1) := by decide +kernel
theorem dX12_barrel_177 : decode cX12_barrel 177 = .ok (.iload_n 3, 1) := by decide +kernel
theorem dX12_barrel_178 : decode cX12_barrel 178 = .ok (.bipush 32, 2) := by decide +kernel
theorem dX12_barrel_180 : decode cX12_barrel 180 = .ok (.if_icmp .ge 26, 3) := by decide +kernel
theorem dX12_barrel_183 : decode cX12_barrel 183 = .ok (.aload_n 0, 1) := by decide +kernel
theorem dX12_barrel_184 : decode cX12_barrel 184 = .ok (.getfield 7, 3) := by decide +kernel
theorem dX12_barrel_187 : decode cX12_barrel 187 = .ok (.bipush 32, 2) := by decide +kernel
theorem dX12_barrel_189 : decode cX12_barrel 189 = .ok (.iload_n 1, 1) := by decide +kernel
theorem dX12_barrel_190 : decode cX12_barrel 190 = .ok (.imul, 1) := by decide +kernel
theorem dX12_barrel_191 : decode cX12_barrel 191 = .ok (.iload_n 3, 1) := by decide +kernel
theorem dX12_barrel_192 : decode cX12_barrel 192 = .ok (.iadd, 1) := by decide +kernel
theorem dX12_barrel_193 : decode cX12_barrel 193 = .ok (.aload_n 0, 1) := by decide +kernel
theorem dX12_barrel_194 : decode cX12_barrel 194 = .ok (.getfield 89, 3) := by decide +kernel
theorem dX12_barrel_197 : decode cX12_barrel 197 = .ok (.iload_n 3, 1) := by decide +kernel
theorem dX12_barrel_198 : decode cX12_barrel 198 = .ok (.iaload, 1) := by decide +kernel
theorem dX12_barrel_199 : decode cX12_barrel 199 = .ok (.iastore, 1) := by decide +kernel
theorem dX12_barrel_200 : decode cX12_barrel 200 = .ok (.iinc 3 1, 3) := by decide +kernel
theorem dX12_barrel_203 : decode cX12_barrel 203 = .ok (.goto (-26), 3) := by decide +kernel
theorem dX12_barrel_206 : decode cX12_barrel 206 = .ok (.aload_n 0, 1) := by decide +kernel
theorem dX12_barrel_207 : decode cX12_barrel 207 = .ok (.getfield 13, 3) := by decide +kernel
theorem dX12_barrel_210 : decode cX12_barrel 210 = .ok (.iload_n 1, 1) := by decide +kernel
theorem dX12_barrel_211 : decode cX12_barrel 211 = .ok (.aload_n 0, 1) := by decide +kernel
theorem dX12_barrel_212 : decode cX12_barrel 212 = .ok (.getfield 155, 3) := by decide +kernel
theorem dX12_barrel_215 : decode cX12_barrel 215 = .ok (.iastore, 1) := by decide +kernel
theorem dX12_barrel_216 : decode cX12_barrel 216 = .ok (.aload_n 0, 1) := by decide +kernel
theorem dX12_barrel_217 : decode cX12_barrel 217 = .ok (.aload_n 0, 1) := by decide +kernel
theorem dX12_barrel_218 : decode cX12_barrel 218 = .ok (.getfield 138, 3) := by decide +kernel
theorem dX12_barrel_221 : decode cX12_barrel 221 = .ok (.iconst 1, 1) := by decide +kernel
theorem dX12_barrel_222 : decode cX12_barrel 222 = .ok (.iadd, 1) := by decide +kernel
theorem dX12_barrel_223 : decode cX12_barrel 223 = .ok (.putfield 138, 3) := by decide +kernel
theorem dX12_barrel_226 : decode cX12_barrel 226 = .ok (.iload_n 2, 1) := by decide +kernel
theorem dX12_barrel_227 : decode cX12_barrel 227 = .ok (.ireturn, 1) := by decide +kernel
theorem dX12_rust_0 : decode cX12_rust 0 = .ok (.aload_n 0, 1) := by decide +kernel
theorem dX12_rust_1 : decode cX12_rust 1 = .ok (.iconst 0, 1) := by decide +kernel
theorem dX12_rust_2 : decode cX12_rust 2 = .ok (.putfield 132, 3) := by decide +kernel
theorem dX12_rust_5 : decode cX12_rust 5 = .ok (.aload_n 0, 1) := by decide +kernel
theorem dX12_rust_6 : decode cX12_rust 6 = .ok (.iload_n 1, 1) := by decide +kernel
theorem dX12_rust_7 : decode cX12_rust 7 = .ok (.invokevirtual 162, 3) := by decide +kernel
theorem dX12_rust_10 : decode cX12_rust 10 = .ok (.ifCond .eq 14, 3) := by decide +kernel
theorem dX12_rust_13 : decode cX12_rust 13 = .ok (.aload_n 0, 1) := by decide +kernel
theorem dX12_rust_14 : decode cX12_rust 14 = .ok (.iload_n 2, 1) := by decide +kernel
theorem dX12_rust_15 : decode cX12_rust 15 = .ok (.iconst 0, 1) := by decide +kernel
theorem dX12_rust_16 : decode cX12_rust 16 = .ok (.bipush 99, 2) := by decide +kernel
theorem dX12_rust_18 : decode cX12_rust 18 = .ok (.invokevirtual 144, 3) := by decide +kernel
theorem dX12_rust_21 : decode cX12_rust 21 = .ok (.ifCond .ne 5, 3) := by decide +kernel
theorem dX12_rust_24 : decode cX12_rust 24 = .ok (.iconst 0, 1) := by decide +kernel
theorem dX12_rust_25 : decode cX12_rust 25 = .ok (.ireturn, 1) := by decide +kernel
