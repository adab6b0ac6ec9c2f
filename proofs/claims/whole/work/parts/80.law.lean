theorem dL_law_0 : decode cL_law 0 = .ok (.new 7, 3) := by decide +kernel
theorem dL_law_3 : decode cL_law 3 = .ok (.dup, 1) := by decide +kernel
theorem dL_law_4 : decode cL_law 4 = .ok (.invokespecial 9, 3) := by decide +kernel
theorem dL_law_7 : decode cL_law 7 = .ok (.astore_n 1, 1) := by decide +kernel
theorem dL_law_8 : decode cL_law 8 = .ok (.new 10, 3) := by decide +kernel
theorem dL_law_11 : decode cL_law 11 = .ok (.dup, 1) := by decide +kernel
theorem dL_law_12 : decode cL_law 12 = .ok (.invokespecial 12, 3) := by decide +kernel
theorem dL_law_15 : decode cL_law 15 = .ok (.astore_n 2, 1) := by decide +kernel
theorem dL_law_16 : decode cL_law 16 = .ok (.iconst 0, 1) := by decide +kernel
theorem dL_law_17 : decode cL_law 17 = .ok (.istore_n 3, 1) := by decide +kernel
theorem dL_law_18 : decode cL_law 18 = .ok (.iload_n 3, 1) := by decide +kernel
theorem dL_law_19 : decode cL_law 19 = .ok (.aload_n 0, 1) := by decide +kernel
theorem dL_law_20 : decode cL_law 20 = .ok (.arraylength, 1) := by decide +kernel
theorem dL_law_21 : decode cL_law 21 = .ok (.bipush 6, 2) := by decide +kernel
theorem dL_law_23 : decode cL_law 23 = .ok (.isub, 1) := by decide +kernel
theorem dL_law_24 : decode cL_law 24 = .ok (.if_icmp .gt 774, 3) := by decide +kernel
theorem dL_law_27 : decode cL_law 27 = .ok (.aload_n 0, 1) := by decide +kernel
theorem dL_law_28 : decode cL_law 28 = .ok (.iload_n 3, 1) := by decide +kernel
theorem dL_law_29 : decode cL_law 29 = .ok (.iaload, 1) := by decide +kernel
theorem dL_law_30 : decode cL_law 30 = .ok (.bipush 15, 2) := by decide +kernel
theorem dL_law_32 : decode cL_law 32 = .ok (.iand, 1) := by decide +kernel
theorem dL_law_33 : decode cL_law 33 = .ok (.tableswitch 759 0 14 #[75, 168, 221, 290, 333, 406, 455, 514, 577, 600, 623, 656, 689, 722, 735], 75) := by decide +kernel
theorem dL_law_108 : decode cL_law 108 = .ok (.aload_n 1, 1) := by decide +kernel
theorem dL_law_109 : decode cL_law 109 = .ok (.aload_n 0, 1) := by decide +kernel
theorem dL_law_110 : decode cL_law 110 = .ok (.iload_n 3, 1) := by decide +kernel
theorem dL_law_111 : decode cL_law 111 = .ok (.iconst 1, 1) := by decide +kernel
theorem dL_law_112 : decode cL_law 112 = .ok (.iadd, 1) := by decide +kernel
theorem dL_law_113 : decode cL_law 113 = .ok (.iaload, 1) := by decide +kernel
theorem dL_law_114 : decode cL_law 114 = .ok (.i2l, 1) := by decide +kernel
theorem dL_law_115 : decode cL_law 115 = .ok (.bipush 32, 2) := by decide +kernel
theorem dL_law_117 : decode cL_law 117 = .ok (.lshl, 1) := by decide +kernel
theorem dL_law_118 : decode cL_law 118 = .ok (.aload_n 0, 1) := by decide +kernel
theorem dL_law_119 : decode cL_law 119 = .ok (.iload_n 3, 1) := by decide +kernel
theorem dL_law_120 : decode cL_law 120 = .ok (.iconst 2, 1) := by decide +kernel
theorem dL_law_121 : decode cL_law 121 = .ok (.iadd, 1) := by decide +kernel
theorem dL_law_122 : decode cL_law 122 = .ok (.iaload, 1) := by decide +kernel
theorem dL_law_123 : decode cL_law 123 = .ok (.i2l, 1) := by decide +kernel
theorem dL_law_124 : decode cL_law 124 = .ok (.ldc2_w 13, 3) := by decide +kernel
theorem dL_law_127 : decode cL_law 127 = .ok (.land, 1) := by decide +kernel
theorem dL_law_128 : decode cL_law 128 = .ok (.lor, 1) := by decide +kernel
theorem dL_law_129 : decode cL_law 129 = .ok (.aload_n 0, 1) := by decide +kernel
theorem dL_law_130 : decode cL_law 130 = .ok (.iload_n 3, 1) := by decide +kernel
theorem dL_law_131 : decode cL_law 131 = .ok (.iconst 3, 1) := by decide +kernel
theorem dL_law_132 : decode cL_law 132 = .ok (.iadd, 1) := by decide +kernel
theorem dL_law_133 : decode cL_law 133 = .ok (.iaload, 1) := by decide +kernel
theorem dL_law_134 : decode cL_law 134 = .ok (.i2l, 1) := by decide +kernel
theorem dL_law_135 : decode cL_law 135 = .ok (.bipush 32, 2) := by decide +kernel
theorem dL_law_137 : decode cL_law 137 = .ok (.lshl, 1) := by decide +kernel
theorem dL_law_138 : decode cL_law 138 = .ok (.aload_n 0, 1) := by decide +kernel
theorem dL_law_139 : decode cL_law 139 = .ok (.iload_n 3, 1) := by decide +kernel
theorem dL_law_140 : decode cL_law 140 = .ok (.iconst 4, 1) := by decide +kernel
theorem dL_law_141 : decode cL_law 141 = .ok (.iadd, 1) := by decide +kernel
theorem dL_law_142 : decode cL_law 142 = .ok (.iaload, 1) := by decide +kernel
theorem dL_law_143 : decode cL_law 143 = .ok (.i2l, 1) := by decide +kernel
theorem dL_law_144 : decode cL_law 144 = .ok (.ldc2_w 13, 3) := by decide +kernel
theorem dL_law_147 : decode cL_law 147 = .ok (.land, 1) := by decide +kernel
theorem dL_law_148 : decode cL_law 148 = .ok (.lor, 1) := by decide +kernel
theorem dL_law_149 : decode cL_law 149 = .ok (.invokevirtual 15, 3) := by decide +kernel
theorem dL_law_152 : decode cL_law 152 = .ok (.aload_n 2, 1) := by decide +kernel
theorem dL_law_153 : decode cL_law 153 = .ok (.aload_n 0, 1) := by decide +kernel
theorem dL_law_154 : decode cL_law 154 = .ok (.iload_n 3, 1) := by decide +kernel
theorem dL_law_155 : decode cL_law 155 = .ok (.iconst 1, 1) := by decide +kernel
theorem dL_law_156 : decode cL_law 156 = .ok (.iadd, 1) := by decide +kernel
theorem dL_law_157 : decode cL_law 157 = .ok (.iaload, 1) := by decide +kernel
theorem dL_law_158 : decode cL_law 158 = .ok (.i2l, 1) := by decide +kernel
theorem dL_law_159 : decode cL_law 159 = .ok (.bipush 32, 2) := by decide +kernel
theorem dL_law_161 : decode cL_law 161 = .ok (.lshl, 1) := by decide +kernel
theorem dL_law_162 : decode cL_law 162 = .ok (.aload_n 0, 1) := by decide +kernel
theorem dL_law_163 : decode cL_law 163 = .ok (.iload_n 3, 1) := by decide +kernel
theorem dL_law_164 : decode cL_law 164 = .ok (.iconst 2, 1) := by decide +kernel
theorem dL_law_165 : decode cL_law 165 = .ok (.iadd, 1) := by decide +kernel
theorem dL_law_166 : decode cL_law 166 = .ok (.iaload, 1) := by decide +kernel
theorem dL_law_167 : decode cL_law 167 = .ok (.i2l, 1) := by decide +kernel
theorem dL_law_168 : decode cL_law 168 = .ok (.ldc2_w 13, 3) := by decide +kernel
theorem dL_law_171 : decode cL_law 171 = .ok (.land, 1) := by decide +kernel
theorem dL_law_172 : decode cL_law 172 = .ok (.lor, 1) := by decide +kernel
theorem dL_law_173 : decode cL_law 173 = .ok (.aload_n 0, 1) := by decide +kernel
theorem dL_law_174 : decode cL_law 174 = .ok (.iload_n 3, 1) := by decide +kernel
theorem dL_law_175 : decode cL_law 175 = .ok (.iconst 3, 1) := by decide +kernel
theorem dL_law_176 : decode cL_law 176 = .ok (.iadd, 1) := by decide +kernel
theorem dL_law_177 : decode cL_law 177 = .ok (.iaload, 1) := by decide +kernel
theorem dL_law_178 : decode cL_law 178 = .ok (.i2l, 1) := by decide +kernel
theorem dL_law_179 : decode cL_law 179 = .ok (.bipush 32, 2) := by decide +kernel
theorem dL_law_181 : decode cL_law 181 = .ok (.lshl, 1) := by decide +kernel
theorem dL_law_182 : decode cL_law 182 = .ok (.aload_n 0, 1) := by decide +kernel
theorem dL_law_183 : decode cL_law 183 = .ok (.iload_n 3, 1) := by decide +kernel
theorem dL_law_184 : decode cL_law 184 = .ok (.iconst 4, 1) := by decide +kernel
theorem dL_law_185 : decode cL_law 185 = .ok (.iadd, 1) := by decide +kernel
theorem dL_law_186 : decode cL_law 186 = .ok (.iaload, 1) := by decide +kernel
theorem dL_law_187 : decode cL_law 187 = .ok (.i2l, 1) := by decide +kernel
theorem dL_law_188 : decode cL_law 188 = .ok (.ldc2_w 13, 3) := by decide +kernel
theorem dL_law_191 : decode cL_law 191 = .ok (.land, 1) := by decide +kernel
theorem dL_law_192 : decode cL_law 192 = .ok (.lor, 1) := by decide +kernel
theorem dL_law_193 : decode cL_law 193 = .ok (.invokevirtual 19, 3) := by decide +kernel
theorem dL_law_196 : decode cL_law 196 = .ok (.if_icmp .eq 596, 3) := by decide +kernel
theorem dL_law_199 : decode cL_law 199 = .ok (.iconst 0, 1) := by decide +kernel
theorem dL_law_200 : decode cL_law 200 = .ok (.ireturn, 1) := by decide +kernel
theorem dL_law_201 : decode cL_law 201 = .ok (.aload_n 1, 1) := by decide +kernel
theorem dL_law_202 : decode cL_law 202 = .ok (.aload_n 0, 1) := by decide +kernel
theorem dL_law_203 : decode cL_law 203 = .ok (.iload_n 3, 1) := by decide +kernel
theorem dL_law_204 : decode cL_law 204 = .ok (.iconst 1, 1) := by decide +kernel
theorem dL_law_205 : decode cL_law 205 = .ok (.iadd, 1) := by decide +kernel
theorem dL_law_206 : decode cL_law 206 = .ok (.iaload, 1) := by decide +kernel
theorem dL_law_207 : decode cL_law 207 = .ok (.aload_n 0, 1) := by decide +kernel
theorem dL_law_208 : decode cL_law 208 = .ok (.iload_n 3, 1) := by decide +kernel
theorem dL_law_209 : decode cL_law 209 = .ok (.iconst 2, 1) := by decide +kernel
theorem dL_law_210 : decode cL_law 210 = .ok (.iadd, 1) := by decide +kernel
theorem dL_law_211 : decode cL_law 211 = .ok (.iaload, 1) := by decide +kernel
theorem dL_law_212 : decode cL_law 212 = .ok (.aload_n 0, 1) := by decide +kernel
theorem dL_law_213 : decode cL_law 213 = .ok (.iload_n 3, 1) := by decide +kernel
theorem dL_law_214 : decode cL_law 214 = .ok (.iconst 3, 1) := by decide +kernel
theorem dL_law_215 : decode cL_law 215 = .ok (.iadd, 1) := by decide +kernel
theorem dL_law_216 : decode cL_law 216 = .ok (.iaload, 1) := by decide +kernel
theorem dL_law_217 : decode cL_law 217 = .ok (.aload_n 0, 1) := by decide +kernel
theorem dL_law_218 : decode cL_law 218 = .ok (.iload_n 3, 1) := by decide +kernel
theorem dL_law_219 : decode cL_law 219 = .ok (.iconst 4, 1) := by decide +kernel
theorem dL_law_220 : decode cL_law 220 = .ok (.iadd, 1) := by decide +kernel
theorem dL_law_221 : decode cL_law 221 = .ok (.iaload, 1) := by decide +kernel
theorem dL_law_222 : decode cL_law 222 = .ok (.invokevirtual 20, 3) := by decide +kernel
theorem dL_law_225 : decode cL_law 225 = .ok (.aload_n 2, 1) := by decide +kernel
theorem dL_law_226 : decode cL_law 226 = .ok (.aload_n 0, 1) := by decide +kernel
theorem dL_law_227 : decode cL_law 227 = .ok (.iload_n 3, 1) := by decide +kernel
theorem dL_law_228 : decode cL_law 228 = .ok (.iconst 1, 1) := by decide +kernel
theorem dL_law_229 : decode cL_law 229 = .ok (.iadd, 1) := by decide +kernel
theorem dL_law_230 : decode cL_law 230 = .ok (.iaload, 1) := by decide +kernel
theorem dL_law_231 : decode cL_law 231 = .ok (.aload_n 0, 1) := by decide +kernel
theorem dL_law_232 : decode cL_law 232 = .ok (.iload_n 3, 1) := by decide +kernel
theorem dL_law_233 : decode cL_law 233 = .ok (.iconst 2, 1) := by decide +kernel
theorem dL_law_234 : decode cL_law 234 = .ok (.iadd, 1) := by decide +kernel
theorem dL_law_235 : decode cL_law 235 = .ok (.iaload, 1) := by decide +kernel
theorem dL_law_236 : decode cL_law 236 = .ok (.aload_n 0, 1) := by decide +kernel
theorem dL_law_237 : decode cL_law 237 = .ok (.iload_n 3, 1) := by decide +kernel
theorem dL_law_238 : decode cL_law 238 = .ok (.iconst 3, 1) := by decide +kernel
theorem dL_law_239 : decode cL_law 239 = .ok (.iadd, 1) := by decide +kernel
theorem dL_law_240 : decode cL_law 240 = .ok (.iaload, 1) := by decide +kernel
theorem dL_law_241 : decode cL_law 241 = .ok (.aload_n 0, 1) := by decide +kernel
theorem dL_law_242 : decode cL_law 242 = .ok (.iload_n 3, 1) := by decide +kernel
theorem dL_law_243 : decode cL_law 243 = .ok (.iconst 4, 1) := by decide +kernel
theorem dL_law_244 : decode cL_law 244 = .ok (.iadd, 1) := by decide +kernel
theorem dL_law_245 : decode cL_law 245 = .ok (.iaload, 1) := by decide +kernel
theorem dL_law_246 : decode cL_law 246 = .ok (.invokevirtual 24, 3) := by decide +kernel
theorem dL_law_249 : decode cL_law 249 = .ok (.if_icmp .eq 543, 3) := by decide +kernel
theorem dL_law_252 : decode cL_law 252 = .ok (.iconst 0, 1) := by decide +kernel
theorem dL_law_253 : decode cL_law 253 = .ok (.ireturn, 1) := by decide +kernel
theorem dL_law_254 : decode cL_law 254 = .ok (.aload_n 1, 1) := by decide +kernel
theorem dL_law_255 : decode cL_law 255 = .ok (.aload_n 0, 1) := by decide +kernel
theorem dL_law_256 : decode cL_law 256 = .ok (.iload_n 3, 1) := by decide +kernel
theorem dL_law_257 : decode cL_law 257 = .ok (.iconst 1, 1) := by decide +kernel
theorem dL_law_258 : decode cL_law 258 = .ok (.iadd, 1) := by decide +kernel
theorem dL_law_259 : decode cL_law 259 = .ok (.iaload, 1) := by decide +kernel
theorem dL_law_260 : decode cL_law 260 = .ok (.aload_n 0, 1) := by decide +kernel
theorem dL_law_261 : decode cL_law 261 = .ok (.iload_n 3, 1) := by decide +kernel
theorem dL_law_262 : decode cL_law 262 = .ok (.iconst 2, 1) := by decide +kernel
theorem dL_law_263 : decode cL_law 263 = .ok (.iadd, 1) := by decide +kernel
theorem dL_law_264 : decode cL_law 264 = .ok (.iaload, 1) := by decide +kernel
theorem dL_law_265 : decode cL_law 265 = .ok (.aload_n 0, 1) := by decide +kernel
theorem dL_law_266 : decode cL_law 266 = .ok (.iload_n 3, 1) := by decide +kernel
theorem dL_law_267 : decode cL_law 267 = .ok (.iconst 3, 1) := by decide +kernel
theorem dL_law_268 : decode cL_law 268 = .ok (.iadd, 1) := by decide +kernel
theorem dL_law_269 : decode cL_law 269 = .ok (.iaload, 1) := by decide +kernel
theorem dL_law_270 : decode cL_law 270 = .ok (.aload_n 0, 1) := by decide +kernel
theorem dL_law_271 : decode cL_law 271 = .ok (.iload_n 3, 1) := by decide +kernel
theorem dL_law_272 : decode cL_law 272 = .ok (.iconst 4, 1) := by decide +kernel
theorem dL_law_273 : decode cL_law 273 = .ok (.iadd, 1) := by decide +kernel
theorem dL_law_274 : decode cL_law 274 = .ok (.iaload, 1) := by decide +kernel
theorem dL_law_275 : decode cL_law 275 = .ok (.ifCond .eq 7, 3) := by decide +kernel
theorem dL_law_278 : decode cL_law 278 = .ok (.iconst 1, 1) := by decide +kernel
theorem dL_law_279 : decode cL_law 279 = .ok (.goto 4, 3) := by decide +kernel
theorem dL_law_282 : decode cL_law 282 = .ok (.iconst 0, 1) := by decide +kernel
theorem dL_law_283 : decode cL_law 283 = .ok (.invokevirtual 25, 3) := by decide +kernel
theorem dL_law_286 : decode cL_law 286 = .ok (.aload_n 2, 1) := by decide +kernel
theorem dL_law_287 : decode cL_law 287 = .ok (.aload_n 0, 1) := by decide +kernel
theorem dL_law_288 : decode cL_law 288 = .ok (.iload_n 3, 1) := by decide +kernel
theorem dL_law_289 : decode cL_law 289 = .ok (.iconst 1, 1) := by decide +kernel
theorem dL_law_290 : decode cL_law 290 = .ok (.iadd, 1) := by decide +kernel
theorem dL_law_291 : decode cL_law 291 = .ok (.iaload, 1) := by decide +kernel
theorem dL_law_292 : decode cL_law 292 = .ok (.aload_n 0, 1) := by decide +kernel
theorem dL_law_293 : decode cL_law 293 = .ok (.iload_n 3, 1) := by decide +kernel
theorem dL_law_294 : decode cL_law 294 = .ok (.iconst 2, 1) := by decide +kernel
theorem dL_law_295 : decode cL_law 295 = .ok (.iadd, 1) := by decide +kernel
theorem dL_law_296 : decode cL_law 296 = .ok (.iaload, 1) := by decide +kernel
theorem dL_law_297 : decode cL_law 297 = .ok (.aload_n 0, 1) := by decide +kernel
theorem dL_law_298 : decode cL_law 298 = .ok (.iload_n 3, 1) := by decide +kernel
theorem dL_law_299 : decode cL_law 299 = .ok (.iconst 3, 1) := by decide +kernel
theorem dL_law_300 : decode cL_law 300 = .ok (.iadd, 1) := by decide +kernel
theorem dL_law_301 : decode cL_law 301 = .ok (.iaload, 1) := by decide +kernel
theorem dL_law_302 : decode cL_law 302 = .ok (.aload_n 0, 1) := by decide +kernel
theorem dL_law_303 : decode cL_law 303 = .ok (.iload_n 3, 1) := by decide +kernel
theorem dL_law_304 : decode cL_law 304 = .ok (.iconst 4, 1) := by decide +kernel
theorem dL_law_305 : decode cL_law 305 = .ok (.iadd, 1) := by decide +kernel
theorem dL_law_306 : decode cL_law 306 = .ok (.iaload, 1) := by decide +kernel
theorem dL_law_307 : decode cL_law 307 = .ok (.ifCond .eq 7, 3) := by decide +kernel
theorem dL_law_310 : decode cL_law 310 = .ok (.iconst 1, 1) := by decide +kernel
theorem dL_law_311 : decode cL_law 311 = .ok (.goto 4, 3) := by decide +kernel
theorem dL_law_314 : decode cL_law 314 = .ok (.iconst 0, 1) := by decide +kernel
theorem dL_law_315 : decode cL_law 315 = .ok (.invokevirtual 29, 3) := by decide +kernel
theorem dL_law_318 : decode cL_law 318 = .ok (.if_icmp .eq 474, 3) := by decide +kernel
theorem dL_law_321 : decode cL_law 321 = .ok (.iconst 0, 1) := by decide +kernel
theorem dL_law_322 : decode cL_law 322 = .ok (.ireturn, 1) := by decide +kernel
theorem dL_law_323 : decode cL_law 323 = .ok (.aload_n 1, 1) := by decide +kernel
theorem dL_law_324 : decode cL_law 324 = .ok (.aload_n 0, 1) := by decide +kernel
theorem dL_law_325 : decode cL_law 325 = .ok (.iload_n 3, 1) := by decide +kernel
theorem dL_law_326 : decode cL_law 326 = .ok (.iconst 1, 1) := by decide +kernel
theorem dL_law_327 : decode cL_law 327 = .ok (.iadd, 1) := by decide +kernel
theorem dL_law_328 : decode cL_law 328 = .ok (.iaload, 1) := by decide +kernel
theorem dL_law_329 : decode cL_law 329 = .ok (.aload_n 0, 1) := by decide +kernel
theorem dL_law_330 : decode cL_law 330 = .ok (.iload_n 3, 1) := by decide +kernel
theorem dL_law_331 : decode cL_law 331 = .ok (.iconst 2, 1) := by decide +kernel
theorem dL_law_332 : decode cL_law 332 = .ok (.iadd, 1) := by decide +kernel
theorem dL_law_333 : decode cL_law 333 = .ok (.iaload, 1) := by decide +kernel
theorem dL_law_334 : decode cL_law 334 = .ok (.aload_n 0, 1) := by decide +kernel
theorem dL_law_335 : decode cL_law 335 = .ok (.iload_n 3, 1) := by decide +kernel
theorem dL_law_336 : decode cL_law 336 = .ok (.iconst 3, 1) := by decide +kernel
theorem dL_law_337 : decode cL_law 337 = .ok (.iadd, 1) := by decide +kernel
theorem dL_law_338 : decode cL_law 338 = .ok (.iaload, 1) := by decide +kernel
theorem dL_law_339 : decode cL_law 339 = .ok (.invokevirtual 30, 3) := by decide +kernel
theorem dL_law_342 : decode cL_law 342 = .ok (.aload_n 2, 1) := by decide +kernel
theorem dL_law_343 : decode cL_law 343 = .ok (.aload_n 0, 1) := by decide +kernel
theorem dL_law_344 : decode cL_law 344 = .ok (.iload_n 3, 1) := by decide +kernel
theorem dL_law_345 : decode cL_law 345 = .ok (.iconst 1, 1) := by decide +kernel
theorem dL_law_346 : decode cL_law 346 = .ok (.iadd, 1) := by decide +kernel
theorem dL_law_347 : decode cL_law 347 = .ok (.iaload, 1) := by decide +kernel
theorem dL_law_348 : decode cL_law 348 = .ok (.aload_n 0, 1) := by decide +kernel
theorem dL_law_349 : decode cL_law 349 = .ok (.iload_n 3, 1) := by decide +kernel
theorem dL_law_350 : decode cL_law 350 = .ok (.iconst 2, 1) := by decide +kernel
theorem dL_law_351 : decode cL_law 351 = .ok (.iadd, 1) := by decide +kernel
theorem dL_law_352 : decode cL_law 352 = .ok (.iaload, 1) := by decide +kernel
theorem dL_law_353 : decode cL_law 353 = .ok (.aload_n 0, 1) := by decide +kernel
theorem dL_law_354 : decode cL_law 354 = .ok (.iload_n 3, 1) := by decide +kernel
theorem dL_law_355 : decode cL_law 355 = .ok (.iconst 3, 1) := by decide +kernel
theorem dL_law_356 : decode cL_law 356 = .ok (.iadd, 1) := by decide +kernel
theorem dL_law_357 : decode cL_law 357 = .ok (.iaload, 1) := by decide +kernel
theorem dL_law_358 : decode cL_law 358 = .ok (.invokevirtual 34, 3) := by decide +kernel
theorem dL_law_361 : decode cL_law 361 = .ok (.if_icmp .eq 431, 3) := by decide +kernel
theorem dL_law_364 : decode cL_law 364 = .ok (.iconst 0, 1) := by decide +kernel
theorem dL_law_365 : decode cL_law 365 = .ok (.ireturn, 1) := by decide +kernel
theorem dL_law_366 : decode cL_law 366 = .ok (.aload_n 1, 1) := by decide +kernel
theorem dL_law_367 : decode cL_law 367 = .ok (.aload_n 0, 1) := by decide +kernel
theorem dL_law_368 : decode cL_law 368 = .ok (.iload_n 3, 1) := by decide +kernel
theorem dL_law_369 : decode cL_law 369 = .ok (.iconst 1, 1) := by decide +kernel
theorem dL_law_370 : decode cL_law 370 = .ok (.iadd, 1) := by decide +kernel
theorem dL_law_371 : decode cL_law 371 = .ok (.iaload, 1) := by decide +kernel
theorem dL_law_372 : decode cL_law 372 = .ok (.aload_n 0, 1) := by decide +kernel
theorem dL_law_373 : decode cL_law 373 = .ok (.iload_n 3, 1) := by decide +kernel
theorem dL_law_374 : decode cL_law 374 = .ok (.iconst 2, 1) := by decide +kernel
theorem dL_law_375 : decode cL_law 375 = .ok (.iadd, 1) := by decide +kernel
theorem dL_law_376 : decode cL_law 376 = .ok (.iaload, 1) := by decide +kernel
theorem dL_law_377 : decode cL_law 377 = .ok (.aload_n 0, 1) := by decide +kernel
theorem dL_law_378 : decode cL_law 378 = .ok (.iload_n 3, 1) := by decide +kernel
theorem dL_law_379 : decode cL_law 379 = .ok (.iconst 3, 1) := by decide +kernel
theorem dL_law_380 : decode cL_law 380 = .ok (.iadd, 1) := by decide +kernel
theorem dL_law_381 : decode cL_law 381 = .ok (.iaload, 1) := by decide +kernel
theorem dL_law_382 : decode cL_law 382 = .ok (.i2l, 1) := by decide +kernel
theorem dL_law_383 : decode cL_law 383 = .ok (.bipush 32, 2) := by decide +kernel
theorem dL_law_385 : decode cL_law 385 = .ok (.lshl, 1) := by decide +kernel
theorem dL_law_386 : decode cL_law 386 = .ok (.aload_n 0, 1) := by decide +kernel
theorem dL_law_387 : decode cL_law 387 = .ok (.iload_n 3, 1) := by decide +kernel
theorem dL_law_388 : decode cL_law 388 = .ok (.iconst 4, 1) := by decide +kernel
theorem dL_law_389 : decode cL_law 389 = .ok (.iadd, 1) := by decide +kernel
theorem dL_law_390 : decode cL_law 390 = .ok (.iaload, 1) := by decide +kernel
theorem dL_law_391 : decode cL_law 391 = .ok (.i2l, 1) := by decide +kernel
theorem dL_law_392 : decode cL_law 392 = .ok (.ldc2_w 13, 3) := by decide +kernel
theorem dL_law_395 : decode cL_law 395 = .ok (.land, 1) := by decide +kernel
theorem dL_law_396 : decode cL_law 396 = .ok (.lor, 1) := by decide +kernel
theorem dL_law_397 : decode cL_law 397 = .ok (.invokevirtual 35, 3) := by decide +kernel
theorem dL_law_400 : decode cL_law 400 = .ok (.aload_n 2, 1) := by decide +kernel
theorem dL_law_401 : decode cL_law 401 = .ok (.aload_n 0, 1) := by decide +kernel
theorem dL_law_402 : decode cL_law 402 = .ok (.iload_n 3, 1) := by decide +kernel
theorem dL_law_403 : decode cL_law 403 = .ok (.iconst 1, 1) := by decide +kernel
theorem dL_law_404 : decode cL_law 404 = .ok (.iadd, 1) := by decide +kernel
theorem dL_law_405 : decode cL_law 405 = .ok (.iaload, 1) := by decide +kernel
theorem dL_law_406 : decode cL_law 406 = .ok (.aload_n 0, 1) := by decide +kernel
theorem dL_law_407 : decode cL_law 407 = .ok (.iload_n 3, 1) := by decide +kernel
theorem dL_law_408 : decode cL_law 408 = .ok (.iconst 2, 1) := by decide +kernel
theorem dL_law_409 : decode cL_law 409 = .ok (.iadd, 1) := by decide +kernel
theorem dL_law_410 : decode cL_law 410 = .ok (.iaload, 1) := by decide +kernel
theorem dL_law_411 : decode cL_law 411 = .ok (.aload_n 0, 1) := by decide +kernel
theorem dL_law_412 : decode cL_law 412 = .ok (.iload_n 3, 1) := by decide +kernel
theorem dL_law_413 : decode cL_law 413 = .ok (.iconst 3, 1) := by decide +kernel
theorem dL_law_414 : decode cL_law 414 = .ok (.iadd, 1) := by decide +kernel
theorem dL_law_415 : decode cL_law 415 = .ok (.iaload, 1) := by decide +kernel
theorem dL_law_416 : decode cL_law 416 = .ok (.i2l, 1) := by decide +kernel
theorem dL_law_417 : decode cL_law 417 = .ok (.bipush 32, 2) := by decide +kernel
theorem dL_law_419 : decode cL_law 419 = .ok (.lshl, 1) := by decide +kernel
theorem dL_law_420 : decode cL_law 420 = .ok (.aload_n 0, 1) := by decide +kernel
theorem dL_law_421 : decode cL_law 421 = .ok (.iload_n 3, 1) := by decide +kernel
theorem dL_law_422 : decode cL_law 422 = .ok (.iconst 4, 1) := by decide +kernel
theorem dL_law_423 : decode cL_law 423 = .ok (.iadd, 1) := by decide +kernel
theorem dL_law_424 : decode cL_law 424 = .ok (.iaload, 1) := by decide +kernel
theorem dL_law_425 : decode cL_law 425 = .ok (.i2l, 1) := by decide +kernel
theorem dL_law_426 : decode cL_law 426 = .ok (.ldc2_w 13, 3) := by decide +kernel
theorem dL_law_429 : decode cL_law 429 = .ok (.land, 1) := by decide +kernel
theorem dL_law_430 : decode cL_law 430 = .ok (.lor, 1) := by decide +kernel
theorem dL_law_431 : decode cL_law 431 = .ok (.invokevirtual 39, 3) := by decide +kernel
theorem dL_law_434 : decode cL_law 434 = .ok (.if_icmp .eq 358, 3) := by decide +kernel
theorem dL_law_437 : decode cL_law 437 = .ok (.iconst 0, 1) := by decide +kernel
theorem dL_law_438 : decode cL_law 438 = .ok (.ireturn, 1) := by decide +kernel
theorem dL_law_439 : decode cL_law 439 = .ok (.aload_n 1, 1) := by decide +kernel
theorem dL_law_440 : decode cL_law 440 = .ok (.aload_n 0, 1) := by decide +kernel
theorem dL_law_441 : decode cL_law 441 = .ok (.iload_n 3, 1) := by decide +kernel
theorem dL_law_442 : decode cL_law 442 = .ok (.iconst 1, 1) := by decide +kernel
theorem dL_law_443 : decode cL_law 443 = .ok (.iadd, 1) := by decide +kernel
theorem dL_law_444 : decode cL_law 444 = .ok (.iaload, 1) := by decide +kernel
theorem dL_law_445 : decode cL_law 445 = .ok (.aload_n 0, 1) := by decide +kernel
theorem dL_law_446 : decode cL_law 446 = .ok (.iload_n 3, 1) := by decide +kernel
theorem dL_law_447 : decode cL_law 447 = .ok (.iconst 2, 1) := by decide +kernel
theorem dL_law_448 : decode cL_law 448 = .ok (.iadd, 1) := by decide +kernel
theorem dL_law_449 : decode cL_law 449 = .ok (.iaload, 1) := by decide +kernel
theorem dL_law_450 : decode cL_law 450 = .ok (.ifCond .eq 7, 3) := by decide +kernel
theorem dL_law_453 : decode cL_law 453 = .ok (.iconst 1, 1) := by decide +kernel
theorem dL_law_454 : decode cL_law 454 = .ok (.goto 4, 3) := by decide +kernel
theorem dL_law_457 : decode cL_law 457 = .ok (.iconst 0, 1) := by decide +kernel
theorem dL_law_458 : decode cL_law 458 = .ok (.invokevirtual 40, 3) := by decide +kernel
theorem dL_law_461 : decode cL_law 461 = .ok (.aload_n 2, 1) := by decide +kernel
theorem dL_law_462 : decode cL_law 462 = .ok (.aload_n 0, 1) := by decide +kernel
theorem dL_law_463 : decode cL_law 463 = .ok (.iload_n 3, 1) := by decide +kernel
theorem dL_law_464 : decode cL_law 464 = .ok (.iconst 1, 1) := by decide +kernel
theorem dL_law_465 : decode cL_law 465 = .ok (.iadd, 1) := by decide +kernel
theorem dL_law_466 : decode cL_law 466 = .ok (.iaload, 1) := by decide +kernel
theorem dL_law_467 : decode cL_law 467 = .ok (.aload_n 0, 1) := by decide +kernel
theorem dL_law_468 : decode cL_law 468 = .ok (.iload_n 3, 1) := by decide +kernel
theorem dL_law_469 : decode cL_law 469 = .ok (.iconst 2, 1) := by decide +kernel
theorem dL_law_470 : decode cL_law 470 = .ok (.iadd, 1) := by decide +kernel
theorem dL_law_471 : decode cL_law 471 = .ok (.iaload, 1) := by decide +kernel
theorem dL_law_472 : decode cL_law 472 = .ok (.ifCond .eq 7, 3) := by decide +kernel
theorem dL_law_475 : decode cL_law 475 = .ok (.iconst 1, 1) := by decide +kernel
theorem dL_law_476 : decode cL_law 476 = .ok (.goto 4, 3) := by decide +kernel
theorem dL_law_479 : decode cL_law 479 = .ok (.iconst 0, 1) := by decide +kernel
theorem dL_law_480 : decode cL_law 480 = .ok (.invokevirtual 44, 3) := by decide +kernel
theorem dL_law_483 : decode cL_law 483 = .ok (.if_icmp .eq 309, 3) := by decide +kernel
theorem dL_law_486 : decode cL_law 486 = .ok (.iconst 0, 1) := by decide +kernel
theorem dL_law_487 : decode cL_law 487 = .ok (.ireturn, 1) := by decide +kernel
theorem dL_law_488 : decode cL_law 488 = .ok (.aload_n 1, 1) := by decide +kernel
theorem dL_law_489 : decode cL_law 489 = .ok (.aload_n 0, 1) := by decide +kernel
theorem dL_law_490 : decode cL_law 490 = .ok (.iload_n 3, 1) := by decide +kernel
theorem dL_law_491 : decode cL_law 491 = .ok (.iconst 1, 1) := by decide +kernel
theorem dL_law_492 : decode cL_law 492 = .ok (.iadd, 1) := by decide +kernel
theorem dL_law_493 : decode cL_law 493 = .ok (.iaload, 1) := by decide +kernel
theorem dL_law_494 : decode cL_law 494 = .ok (.aload_n 0, 1) := by decide +kernel
theorem dL_law_495 : decode cL_law 495 = .ok (.iload_n 3, 1) := by decide +kernel
theorem dL_law_496 : decode cL_law 496 = .ok (.iconst 2, 1) := by decide +kernel
theorem dL_law_497 : decode cL_law 497 = .ok (.iadd, 1) := by decide +kernel
theorem dL_law_498 : decode cL_law 498 = .ok (.iaload, 1) := by decide +kernel
theorem dL_law_499 : decode cL_law 499 = .ok (.aload_n 0, 1) := by decide +kernel
theorem dL_law_500 : decode cL_law 500 = .ok (.iload_n 3, 1) := by decide +kernel
theorem dL_law_501 : decode cL_law 501 = .ok (.iconst 3, 1) := by decide +kernel
theorem dL_law_502 : decode cL_law 502 = .ok (.iadd, 1) := by decide +kernel
theorem dL_law_503 : decode cL_law 503 = .ok (.iaload, 1) := by decide +kernel
theorem dL_law_504 : decode cL_law 504 = .ok (.ifCond .eq 7, 3) := by decide +kernel
theorem dL_law_507 : decode cL_law 507 = .ok (.iconst 1, 1) := by decide +kernel
theorem dL_law_508 : decode cL_law 508 = .ok (.goto 4, 3) := by decide +kernel
theorem dL_law_511 : decode cL_law 511 = .ok (.iconst 0, 1) := by decide +kernel
theorem dL_law_512 : decode cL_law 512 = .ok (.invokevirtual 45, 3) := by decide +kernel
theorem dL_law_515 : decode cL_law 515 = .ok (.aload_n 2, 1) := by decide +kernel
theorem dL_law_516 : decode cL_law 516 = .ok (.aload_n 0, 1) := by decide +kernel
theorem dL_law_517 : decode cL_law 517 = .ok (.iload_n 3, 1) := by decide +kernel
theorem dL_law_518 : decode cL_law 518 = .ok (.iconst 1, 1) := by decide +kernel
theorem dL_law_519 : decode cL_law 519 = .ok (.iadd, 1) := by decide +kernel
theorem dL_law_520 : decode cL_law 520 = .ok (.iaload, 1) := by decide +kernel
theorem dL_law_521 : decode cL_law 521 = .ok (.aload_n 0, 1) := by decide +kernel
theorem dL_law_522 : decode cL_law 522 = .ok (.iload_n 3, 1) := by decide +kernel
theorem dL_law_523 : decode cL_law 523 = .ok (.iconst 2, 1) := by decide +kernel
theorem dL_law_524 : decode cL_law 524 = .ok (.iadd, 1) := by decide +kernel
theorem dL_law_525 : decode cL_law 525 = .ok (.iaload, 1) := by decide +kernel
theorem dL_law_526 : decode cL_law 526 = .ok (.aload_n 0, 1) := by decide +kernel
theorem dL_law_527 : decode cL_law 527 = .ok (.iload_n 3, 1) := by decide +kernel
theorem dL_law_528 : decode cL_law 528 = .ok (.iconst 3, 1) := by decide +kernel
theorem dL_law_529 : decode cL_law 529 = .ok (.iadd, 1) := by decide +kernel
theorem dL_law_530 : decode cL_law 530 = .ok (.iaload, 1) := by decide +kernel
theorem dL_law_531 : decode cL_law 531 = .ok (.ifCond .eq 7, 3) := by decide +kernel
theorem dL_law_534 : decode cL_law 534 = .ok (.iconst 1, 1) := by decide +kernel
theorem dL_law_535 : decode cL_law 535 = .ok (.goto 4, 3) := by decide +kernel
theorem dL_law_538 : decode cL_law 538 = .ok (.iconst 0, 1) := by decide +kernel
theorem dL_law_539 : decode cL_law 539 = .ok (.invokevirtual 49, 3) := by decide +kernel
theorem dL_law_542 : decode cL_law 542 = .ok (.if_icmp .eq 250, 3) := by decide +kernel
theorem dL_law_545 : decode cL_law 545 = .ok (.iconst 0, 1) := by decide +kernel
theorem dL_law_546 : decode cL_law 546 = .ok (.ireturn, 1) := by decide +kernel
theorem dL_law_547 : decode cL_law 547 = .ok (.aload_n 1, 1) := by decide +kernel
theorem dL_law_548 : decode cL_law 548 = .ok (.aload_n 0, 1) := by decide +kernel
theorem dL_law_549 : decode cL_law 549 = .ok (.iload_n 3, 1) := by decide +kernel
theorem dL_law_550 : decode cL_law 550 = .ok (.iconst 1, 1) := by decide +kernel
theorem dL_law_551 : decode cL_law 551 = .ok (.iadd, 1) := by decide +kernel
theorem dL_law_552 : decode cL_law 552 = .ok (.iaload, 1) := by decide +kernel
theorem dL_law_553 : decode cL_law 553 = .ok (.aload_n 0, 1) := by decide +kernel
theorem dL_law_554 : decode cL_law 554 = .ok (.iload_n 3, 1) := by decide +kernel
theorem dL_law_555 : decode cL_law 555 = .ok (.iconst 2, 1) := by decide +kernel
theorem dL_law_556 : decode cL_law 556 = .ok (.iadd, 1) := by decide +kernel
theorem dL_law_557 : decode cL_law 557 = .ok (.iaload, 1) := by decide +kernel
theorem dL_law_558 : decode cL_law 558 = .ok (.aload_n 0, 1) := by decide +kernel
theorem dL_law_559 : decode cL_law 559 = .ok (.iload_n 3, 1) := by decide +kernel
theorem dL_law_560 : decode cL_law 560 = .ok (.iconst 3, 1) := by decide +kernel
theorem dL_law_561 : decode cL_law 561 = .ok (.iadd, 1) := by decide +kernel
theorem dL_law_562 : decode cL_law 562 = .ok (.iaload, 1) := by decide +kernel
theorem dL_law_563 : decode cL_law 563 = .ok (.aload_n 0, 1) := by decide +kernel
theorem dL_law_564 : decode cL_law 564 = .ok (.iload_n 3, 1) := by decide +kernel
theorem dL_law_565 : decode cL_law 565 = .ok (.iconst 4, 1) := by decide +kernel
theorem dL_law_566 : decode cL_law 566 = .ok (.iadd, 1) := by decide +kernel
theorem dL_law_567 : decode cL_law 567 = .ok (.iaload, 1) := by decide +kernel
theorem dL_law_568 : decode cL_law 568 = .ok (.aload_n 0, 1) := by decide +kernel
theorem dL_law_569 : decode cL_law 569 = .ok (.iload_n 3, 1) := by decide +kernel
theorem dL_law_570 : decode cL_law 570 = .ok (.iconst 5, 1) := by decide +kernel
theorem dL_law_571 : decode cL_law 571 = .ok (.iadd, 1) := by decide +kernel
theorem dL_law_572 : decode cL_law 572 = .ok (.iaload, 1) := by decide +kernel
theorem dL_law_573 : decode cL_law 573 = .ok (.invokevirtual 50, 3) := by decide +kernel
theorem dL_law_576 : decode cL_law 576 = .ok (.aload_n 2, 1) := by decide +kernel
theorem dL_law_577 : decode cL_law 577 = .ok (.aload_n 0, 1) := by decide +kernel
theorem dL_law_578 : decode cL_law 578 = .ok (.iload_n 3, 1) := by decide +kernel
theorem dL_law_579 : decode cL_law 579 = .ok (.iconst 1, 1) := by decide +kernel
theorem dL_law_580 : decode cL_law 580 = .ok (.iadd, 1) := by decide +kernel
theorem dL_law_581 : decode cL_law 581 = .ok (.iaload, 1) := by decide +kernel
theorem dL_law_582 : decode cL_law 582 = .ok (.aload_n 0, 1) := by decide +kernel
theorem dL_law_583 : decode cL_law 583 = .ok (.iload_n 3, 1) := by decide +kernel
theorem dL_law_584 : decode cL_law 584 = .ok (.iconst 2, 1) := by decide +kernel
theorem dL_law_585 : decode cL_law 585 = .ok (.iadd, 1) := by decide +kernel
theorem dL_law_586 : decode cL_law 586 = .ok (.iaload, 1) := by decide +kernel
theorem dL_law_587 : decode cL_law 587 = .ok (.aload_n 0, 1) := by decide +kernel
theorem dL_law_588 : decode cL_law 588 = .ok (.iload_n 3, 1) := by decide +kernel
theorem dL_law_589 : decode cL_law 589 = .ok (.iconst 3, 1) := by decide +kernel
theorem dL_law_590 : decode cL_law 590 = .ok (.iadd, 1) := by decide +kernel
theorem dL_law_591 : decode cL_law 591 = .ok (.iaload, 1) := by decide +kernel
theorem dL_law_592 : decode cL_law 592 = .ok (.aload_n 0, 1) := by decide +kernel
theorem dL_law_593 : decode cL_law 593 = .ok (.iload_n 3, 1) := by decide +kernel
theorem dL_law_594 : decode cL_law 594 = .ok (.iconst 4, 1) := by decide +kernel
theorem dL_law_595 : decode cL_law 595 = .ok (.iadd, 1) := by decide +kernel
theorem dL_law_596 : decode cL_law 596 = .ok (.iaload, 1) := by decide +kernel
theorem dL_law_597 : decode cL_law 597 = .ok (.aload_n 0, 1) := by decide +kernel
theorem dL_law_598 : decode cL_law 598 = .ok (.iload_n 3, 1) := by decide +kernel
theorem dL_law_599 : decode cL_law 599 = .ok (.iconst 5, 1) := by decide +kernel
theorem dL_law_600 : decode cL_law 600 = .ok (.iadd, 1) := by decide +kernel
theorem dL_law_601 : decode cL_law 601 = .ok (.iaload, 1) := by decide +kernel
theorem dL_law_602 : decode cL_law 602 = .ok (.invokevirtual 54, 3) := by decide +kernel
theorem dL_law_605 : decode cL_law 605 = .ok (.if_icmp .eq 187, 3) := by decide +kernel
theorem dL_law_608 : decode cL_law 608 = .ok (.iconst 0, 1) := by decide +kernel
theorem dL_law_609 : decode cL_law 609 = .ok (.ireturn, 1) := by decide +kernel
theorem dL_law_610 : decode cL_law 610 = .ok (.aload_n 1, 1) := by decide +kernel
theorem dL_law_611 : decode cL_law 611 = .ok (.aload_n 0, 1) := by decide +kernel
theorem dL_law_612 : decode cL_law 612 = .ok (.iload_n 3, 1) := by decide +kernel
theorem dL_law_613 : decode cL_law 613 = .ok (.iconst 1, 1) := by decide +kernel
theorem dL_law_614 : decode cL_law 614 = .ok (.iadd, 1) := by decide +kernel
theorem dL_law_615 : decode cL_law 615 = .ok (.iaload, 1) := by decide +kernel
theorem dL_law_616 : decode cL_law 616 = .ok (.invokevirtual 55, 3) := by decide +kernel
theorem dL_law_619 : decode cL_law 619 = .ok (.aload_n 2, 1) := by decide +kernel
theorem dL_law_620 : decode cL_law 620 = .ok (.aload_n 0, 1) := by decide +kernel
theorem dL_law_621 : decode cL_law 621 = .ok (.iload_n 3, 1) := by decide +kernel
theorem dL_law_622 : decode cL_law 622 = .ok (.iconst 1, 1) := by decide +kernel
theorem dL_law_623 : decode cL_law 623 = .ok (.iadd, 1) := by decide +kernel
theorem dL_law_624 : decode cL_law 624 = .ok (.iaload, 1) := by decide +kernel
theorem dL_law_625 : decode cL_law 625 = .ok (.invokevirtual 59, 3) := by decide +kernel
theorem dL_law_628 : decode cL_law 628 = .ok (.if_icmp .eq 164, 3) := by decide +kernel
theorem dL_law_631 : decode cL_law 631 = .ok (.iconst 0, 1) := by decide +kernel
theorem dL_law_632 : decode cL_law 632 = .ok (.ireturn, 1) := by decide +kernel
theorem dL_law_633 : decode cL_law 633 = .ok (.aload_n 1, 1) := by decide +kernel
theorem dL_law_634 : decode cL_law 634 = .ok (.aload_n 0, 1) := by decide +kernel
theorem dL_law_635 : decode cL_law 635 = .ok (.iload_n 3, 1) := by decide +kernel
theorem dL_law_636 : decode cL_law 636 = .ok (.iconst 1, 1) := by decide +kernel
theorem dL_law_637 : decode cL_law 637 = .ok (.iadd, 1) := by decide +kernel
theorem dL_law_638 : decode cL_law 638 = .ok (.iaload, 1) := by decide +kernel
theorem dL_law_639 : decode cL_law 639 = .ok (.invokevirtual 60, 3) := by decide +kernel
theorem dL_law_642 : decode cL_law 642 = .ok (.aload_n 2, 1) := by decide +kernel
theorem dL_law_643 : decode cL_law 643 = .ok (.aload_n 0, 1) := by decide +kernel
theorem dL_law_644 : decode cL_law 644 = .ok (.iload_n 3, 1) := by decide +kernel
theorem dL_law_645 : decode cL_law 645 = .ok (.iconst 1, 1) := by decide +kernel
theorem dL_law_646 : decode cL_law 646 = .ok (.iadd, 1) := by decide +kernel
theorem dL_law_647 : decode cL_law 647 = .ok (.iaload, 1) := by decide +kernel
theorem dL_law_648 : decode cL_law 648 = .ok (.invokevirtual 63, 3) := by decide +kernel
theorem dL_law_651 : decode cL_law 651 = .ok (.if_icmp .eq 141, 3) := by decide +kernel
theorem dL_law_654 : decode cL_law 654 = .ok (.iconst 0, 1) := by decide +kernel
theorem dL_law_655 : decode cL_law 655 = .ok (.ireturn, 1) := by decide +kernel
theorem dL_law_656 : decode cL_law 656 = .ok (.aload_n 1, 1) := by decide +kernel
theorem dL_law_657 : decode cL_law 657 = .ok (.aload_n 0, 1) := by decide +kernel
theorem dL_law_658 : decode cL_law 658 = .ok (.iload_n 3, 1) := by decide +kernel
theorem dL_law_659 : decode cL_law 659 = .ok (.iconst 1, 1) := by decide +kernel
theorem dL_law_660 : decode cL_law 660 = .ok (.iadd, 1) := by decide +kernel
theorem dL_law_661 : decode cL_law 661 = .ok (.iaload, 1) := by decide +kernel
theorem dL_law_662 : decode cL_law 662 = .ok (.aload_n 0, 1) := by decide +kernel
theorem dL_law_663 : decode cL_law 663 = .ok (.iload_n 3, 1) := by decide +kernel
theorem dL_law_664 : decode cL_law 664 = .ok (.iconst 2, 1) := by decide +kernel
theorem dL_law_665 : decode cL_law 665 = .ok (.iadd, 1) := by decide +kernel
theorem dL_law_666 : decode cL_law 666 = .ok (.iaload, 1) := by decide +kernel
theorem dL_law_667 : decode cL_law 667 = .ok (.invokevirtual 64, 3) := by decide +kernel
theorem dL_law_670 : decode cL_law 670 = .ok (.aload_n 2, 1) := by decide +kernel
theorem dL_law_671 : decode cL_law 671 = .ok (.aload_n 0, 1) := by decide +kernel
theorem dL_law_672 : decode cL_law 672 = .ok (.iload_n 3, 1) := by decide +kernel
theorem dL_law_673 : decode cL_law 673 = .ok (.iconst 1, 1) := by decide +kernel
theorem dL_law_674 : decode cL_law 674 = .ok (.iadd, 1) := by decide +kernel
theorem dL_law_675 : decode cL_law 675 = .ok (.iaload, 1) := by decide +kernel
theorem dL_law_676 : decode cL_law 676 = .ok (.aload_n 0, 1) := by decide +kernel
theorem dL_law_677 : decode cL_law 677 = .ok (.iload_n 3, 1) := by decide +kernel
theorem dL_law_678 : decode cL_law 678 = .ok (.iconst 2, 1) := by decide +kernel
theorem dL_law_679 : decode cL_law 679 = .ok (.iadd, 1) := by decide +kernel
theorem dL_law_680 : decode cL_law 680 = .ok (.iaload, 1) := by decide +kernel
theorem dL_law_681 : decode cL_law 681 = .ok (.invokevirtual 68, 3) := by decide +kernel
theorem dL_law_684 : decode cL_law 684 = .ok (.if_icmp .eq 108, 3) := by decide +kernel
theorem dL_law_687 : decode cL_law 687 = .ok (.iconst 0, 1) := by decide +kernel
theorem dL_law_688 : decode cL_law 688 = .ok (.ireturn, 1) := by decide +kernel
theorem dL_law_689 : decode cL_law 689 = .ok (.aload_n 1, 1) := by decide +kernel
theorem dL_law_690 : decode cL_law 690 = .ok (.aload_n 0, 1) := by decide +kernel
theorem dL_law_691 : decode cL_law 691 = .ok (.iload_n 3, 1) := by decide +kernel
theorem dL_law_692 : decode cL_law 692 = .ok (.iconst 1, 1) := by decide +kernel
theorem dL_law_693 : decode cL_law 693 = .ok (.iadd, 1) := by decide +kernel
theorem dL_law_694 : decode cL_law 694 = .ok (.iaload, 1) := by decide +kernel
theorem dL_law_695 : decode cL_law 695 = .ok (.aload_n 0, 1) := by decide +kernel
theorem dL_law_696 : decode cL_law 696 = .ok (.iload_n 3, 1) := by decide +kernel
theorem dL_law_697 : decode cL_law 697 = .ok (.iconst 2, 1) := by decide +kernel
theorem dL_law_698 : decode cL_law 698 = .ok (.iadd, 1) := by decide +kernel
theorem dL_law_699 : decode cL_law 699 = .ok (.iaload, 1) := by decide +kernel
theorem dL_law_700 : decode cL_law 700 = .ok (.invokevirtual 69, 3) := by decide +kernel
theorem dL_law_703 : decode cL_law 703 = .ok (.aload_n 2, 1) := by decide +kernel
theorem dL_law_704 : decode cL_law 704 = .ok (.aload_n 0, 1) := by decide +kernel
theorem dL_law_705 : decode cL_law 705 = .ok (.iload_n 3, 1) := by decide +kernel
theorem dL_law_706 : decode cL_law 706 = .ok (.iconst 1, 1) := by decide +kernel
theorem dL_law_707 : decode cL_law 707 = .ok (.iadd, 1) := by decide +kernel
theorem dL_law_708 : decode cL_law 708 = .ok (.iaload, 1) := by decide +kernel
theorem dL_law_709 : decode cL_law 709 = .ok (.aload_n 0, 1) := by decide +kernel
theorem dL_law_710 : decode cL_law 710 = .ok (.iload_n 3, 1) := by decide +kernel
theorem dL_law_711 : decode cL_law 711 = .ok (.iconst 2, 1) := by decide +kernel
theorem dL_law_712 : decode cL_law 712 = .ok (.iadd, 1) := by decide +kernel
theorem dL_law_713 : decode cL_law 713 = .ok (.iaload, 1) := by decide +kernel
theorem dL_law_714 : decode cL_law 714 = .ok (.invokevirtual 72, 3) := by decide +kernel
theorem dL_law_717 : decode cL_law 717 = .ok (.if_icmp .eq 75, 3) := by decide +kernel
theorem dL_law_720 : decode cL_law 720 = .ok (.iconst 0, 1) := by decide +kernel
theorem dL_law_721 : decode cL_law 721 = .ok (.ireturn, 1) := by decide +kernel
theorem dL_law_722 : decode cL_law 722 = .ok (.aload_n 1, 1) := by decide +kernel
theorem dL_law_723 : decode cL_law 723 = .ok (.aload_n 0, 1) := by decide +kernel
theorem dL_law_724 : decode cL_law 724 = .ok (.iload_n 3, 1) := by decide +kernel
theorem dL_law_725 : decode cL_law 725 = .ok (.iconst 1, 1) := by decide +kernel
theorem dL_law_726 : decode cL_law 726 = .ok (.iadd, 1) := by decide +kernel
theorem dL_law_727 : decode cL_law 727 = .ok (.iaload, 1) := by decide +kernel
theorem dL_law_728 : decode cL_law 728 = .ok (.aload_n 0, 1) := by decide +kernel
theorem dL_law_729 : decode cL_law 729 = .ok (.iload_n 3, 1) := by decide +kernel
theorem dL_law_730 : decode cL_law 730 = .ok (.iconst 2, 1) := by decide +kernel
theorem dL_law_731 : decode cL_law 731 = .ok (.iadd, 1) := by decide +kernel
theorem dL_law_732 : decode cL_law 732 = .ok (.iaload, 1) := by decide +kernel
theorem dL_law_733 : decode cL_law 733 = .ok (.invokevirtual 73, 3) := by decide +kernel
theorem dL_law_736 : decode cL_law 736 = .ok (.aload_n 2, 1) := by decide +kernel
theorem dL_law_737 : decode cL_law 737 = .ok (.aload_n 0, 1) := by decide +kernel
theorem dL_law_738 : decode cL_law 738 = .ok (.iload_n 3, 1) := by decide +kernel
theorem dL_law_739 : decode cL_law 739 = .ok (.iconst 1, 1) := by decide +kernel
theorem dL_law_740 : decode cL_law 740 = .ok (.iadd, 1) := by decide +kernel
theorem dL_law_741 : decode cL_law 741 = .ok (.iaload, 1) := by decide +kernel
theorem dL_law_742 : decode cL_law 742 = .ok (.aload_n 0, 1) := by decide +kernel
theorem dL_law_743 : decode cL_law 743 = .ok (.iload_n 3, 1) := by decide +kernel
theorem dL_law_744 : decode cL_law 744 = .ok (.iconst 2, 1) := by decide +kernel
theorem dL_law_745 : decode cL_law 745 = .ok (.iadd, 1) := by decide +kernel
theorem dL_law_746 : decode cL_law 746 = .ok (.iaload, 1) := by decide +kernel
theorem dL_law_747 : decode cL_law 747 = .ok (.invokevirtual 76, 3) := by decide +kernel
theorem dL_law_750 : decode cL_law 750 = .ok (.if_icmp .eq 42, 3) := by decide +kernel
theorem dL_law_753 : decode cL_law 753 = .ok (.iconst 0, 1) := by decide +kernel
theorem dL_law_754 : decode cL_law 754 = .ok (.ireturn, 1) := by decide +kernel
theorem dL_law_755 : decode cL_law 755 = .ok (.aload_n 1, 1) := by decide +kernel
theorem dL_law_756 : decode cL_law 756 = .ok (.invokevirtual 77, 3) := by decide +kernel
theorem dL_law_759 : decode cL_law 759 = .ok (.aload_n 2, 1) := by decide +kernel
theorem dL_law_760 : decode cL_law 760 = .ok (.invokevirtual 81, 3) := by decide +kernel
theorem dL_law_763 : decode cL_law 763 = .ok (.if_icmp .eq 29, 3) := by decide +kernel
theorem dL_law_766 : decode cL_law 766 = .ok (.iconst 0, 1) := by decide +kernel
theorem dL_law_767 : decode cL_law 767 = .ok (.ireturn, 1) := by decide +kernel
theorem dL_law_768 : decode cL_law 768 = .ok (.aload_n 1, 1) := by decide +kernel
theorem dL_law_769 : decode cL_law 769 = .ok (.aload_n 0, 1) := by decide +kernel
theorem dL_law_770 : decode cL_law 770 = .ok (.iload_n 3, 1) := by decide +kernel
theorem dL_law_771 : decode cL_law 771 = .ok (.iconst 1, 1) := by decide +kernel
theorem dL_law_772 : decode cL_law 772 = .ok (.iadd, 1) := by decide +kernel
theorem dL_law_773 : decode cL_law 773 = .ok (.iaload, 1) := by decide +kernel
theorem dL_law_774 : decode cL_law 774 = .ok (.invokevirtual 82, 3) := by decide +kernel
theorem dL_law_777 : decode cL_law 777 = .ok (.aload_n 2, 1) := by decide +kernel
theorem dL_law_778 : decode cL_law 778 = .ok (.aload_n 0, 1) := by decide +kernel
theorem dL_law_779 : decode cL_law 779 = .ok (.iload_n 3, 1) := by decide +kernel
theorem dL_law_780 : decode cL_law 780 = .ok (.iconst 1, 1) := by decide +kernel
theorem dL_law_781 : decode cL_law 781 = .ok (.iadd, 1) := by decide +kernel
theorem dL_law_782 : decode cL_law 782 = .ok (.iaload, 1) := by decide +kernel
theorem dL_law_783 : decode cL_law 783 = .ok (.invokevirtual 86, 3) := by decide +kernel
theorem dL_law_786 : decode cL_law 786 = .ok (.lcmp, 1) := by decide +kernel
theorem dL_law_787 : decode cL_law 787 = .ok (.ifCond .eq 5, 3) := by decide +kernel
theorem dL_law_790 : decode cL_law 790 = .ok (.iconst 0, 1) := by decide +kernel
theorem dL_law_791 : decode cL_law 791 = .ok (.ireturn, 1) := by decide +kernel
theorem dL_law_792 : decode cL_law 792 = .ok (.iinc 3 6, 3) := by decide +kernel
theorem dL_law_795 : decode cL_law 795 = .ok (.goto (-777), 3) := by decide +kernel
theorem dL_law_798 : decode cL_law 798 = .ok (.iconst 1, 1) := by decide +kernel
theorem dL_law_799 : decode cL_law 799 = .ok (.ireturn, 1) := by decide +kernel
theorem lw_in {x3 : Int32} {i L : Nat} (ex3 : x3 = nI i) (k : Nat) {kk : Int32} (hk : kk = nI k) (h : i + k < L) (hL : L < 2 ^ 31) : vp_in (x3 + kk) L := by
  rw [ex3, hk, nI_add]
  exact vp_in_nI h hL
theorem lw_cmp0 {x y : Int64} (h : x = y) : lg_cmp x y = 0 := by
  subst h
  simp [lg_cmp]
theorem lw_le {i L : Nat} (hL : L ≤ 3072) (hi : i ≤ L + 5) (h : ¬ (Int32.ofNat L - 6 < nI i)) : i ≤ L := by
  have e1 : (Int32.ofNat L - 6).toInt = (L : Int) - 6 := by
    have h1 : (nI L - nI 6).toInt = (L : Int) - (6 : Nat) := pk_sub_toInt (by omega) (by decide)
    exact h1
  have e2 : (nI i).toInt = (i : Int) := nI_toInt (by omega)
  rw [Int32.lt_iff_toInt_lt, e1, e2] at h
  omega
set_option maxHeartbeats 4000000 in
set_option maxRecDepth 100000 in
theorem lw_case_0 {p : Program} {l : Launch} {e : Env} {s : State} {m : MethodId} {below : List Frame} {meth : Method} {c : Code} {D : va_G} {a a2 : Nat → Nat} {k3 : K3} {b L : Nat} {xs : Nat → Int32} (hL : L ≤ 3072) (C0 : lw_At p s m meth c b L xs) (hK : va_K D vwCl (ty3 k3) s) (hN : nw_all nestW s) (i : Nat) (x3 : Int32) (ex3 : x3 = nI i) (hi : i + 6 ≤ L) (u v : S4) (hR : Rel u v) (H : Heap) (locs : List Loc) (ls : Array Slot) (hw : wd2 D vwCl (xC a k3) (mC a2 k3) (fun q : Nat => s.heap.size ≤ q) s.heap u v H locs) (hl : lv_has ls 4 [(0, .ref b), (1, .ref (a 0)), (2, .ref (a2 0)), (3, .int x3)]) (kk : ∀ (u1 v1 : S4) (H1 : Heap) (locs1 : List Loc), Rel u1 v1 → wd2 D vwCl (xC a k3) (mC a2 k3) (fun q : Nat => s.heap.size ≤ q) s.heap u1 v1 H1 locs1 → W p l e room_1 s m #[Value.ref b] below meth c H1 locs1 54 5713 (lw_Z below #[Value.ref b] s) (F0 m 792 ls [])) : W p l e room_1 s m #[Value.ref b] below meth c H locs 54 5713 (lw_Z below #[Value.ref b] s) (F0 m 108 ls []) := by
  obtain ⟨hx, hb, hr, hml, hown, hts, hX, hbl, hlocks, hgv⟩ := id C0
  have htG := tb_hts hts
  have hown : s.vm.findClass "StreetSidesLaw" = some m.cls := hown
  have hA : ∀ q : Nat, s.heap.size ≤ q → (fun q : Nat => s.heap.size ≤ q) q := fun _ h => h
  have hbA : ¬ (fun q : Nat => s.heap.size ≤ q) b := Nat.not_le.mpr hbl
  have j1 : vp_in (x3 + 1) L := lw_in ex3 1 rfl (by omega) (by omega)
  let s1 : Int32 := xs (x3 + (1 : Int32)).toNatClampNeg
  have j2 : vp_in (x3 + 2) L := lw_in ex3 2 rfl (by omega) (by omega)
  let s2 : Int32 := xs (x3 + (2 : Int32)).toNatClampNeg
  have j3 : vp_in (x3 + 3) L := lw_in ex3 3 rfl (by omega) (by omega)
  let s3 : Int32 := xs (x3 + (3 : Int32)).toNatClampNeg
  have j4 : vp_in (x3 + 4) L := lw_in ex3 4 rfl (by omega) (by omega)
  let s4 : Int32 := xs (x3 + (4 : Int32)).toNatClampNeg
  have j5 : vp_in (x3 + 5) L := lw_in ex3 5 rfl (by omega) (by omega)
  let s5 : Int32 := xs (x3 + (5 : Int32)).toNatClampNeg
  refine lv_aload_n hx hb dL_law_108 rfl (lv_at hl 1 rfl) ?_
  refine lv_aload_n hx hb dL_law_109 rfl (lv_at hl 0 rfl) ?_
  refine lv_iload_n hx hb dL_law_110 rfl (lv_at hl 3 rfl) ?_
  refine lv_iconst (v := 1) hx hb dL_law_111 (by decide) ?_
  refine lv_iadd hx hb dL_law_112 ?_
  refine va_sld hx hb hX hbl hbA hw.2.2.2 j1 dL_law_113 ?_
  refine lv_i2l hx hb dL_law_114 rfl ?_
  refine lv_bipush (v := 32) hx hb dL_law_115 (by decide) ?_
  refine lv_lshl hx hb dL_law_117 rfl ?_
  refine lv_aload_n hx hb dL_law_118 rfl (lv_at hl 0 rfl) ?_
  refine lv_iload_n hx hb dL_law_119 rfl (lv_at hl 3 rfl) ?_
  refine lv_iconst (v := 2) hx hb dL_law_120 (by decide) ?_
  refine lv_iadd hx hb dL_law_121 ?_
  refine va_sld hx hb hX hbl hbA hw.2.2.2 j2 dL_law_122 ?_
  refine lv_i2l hx hb dL_law_123 rfl ?_
  refine lv_ldc2 (v := 4294967295) hx hb hown (htG _ tb_712) dL_law_124 ?_
  refine lv_land hx hb dL_law_127 ?_
  refine lv_lor hx hb dL_law_128 ?_
  refine lv_aload_n hx hb dL_law_129 rfl (lv_at hl 0 rfl) ?_
  refine lv_iload_n hx hb dL_law_130 rfl (lv_at hl 3 rfl) ?_
  refine lv_iconst (v := 3) hx hb dL_law_131 (by decide) ?_
  refine lv_iadd hx hb dL_law_132 ?_
  refine va_sld hx hb hX hbl hbA hw.2.2.2 j3 dL_law_133 ?_
  refine lv_i2l hx hb dL_law_134 rfl ?_
  refine lv_bipush (v := 32) hx hb dL_law_135 (by decide) ?_
  refine lv_lshl hx hb dL_law_137 rfl ?_
  refine lv_aload_n hx hb dL_law_138 rfl (lv_at hl 0 rfl) ?_
  refine lv_iload_n hx hb dL_law_139 rfl (lv_at hl 3 rfl) ?_
  refine lv_iconst (v := 4) hx hb dL_law_140 (by decide) ?_
  refine lv_iadd hx hb dL_law_141 ?_
  refine va_sld hx hb hX hbl hbA hw.2.2.2 j4 dL_law_142 ?_
  refine lv_i2l hx hb dL_law_143 rfl ?_
  refine lv_ldc2 (v := 4294967295) hx hb hown (htG _ tb_712) dL_law_144 ?_
  refine lv_land hx hb dL_law_147 ?_
  refine lv_lor hx hb dL_law_148 ?_
  obtain ⟨qx, qm, heq, hrel⟩ := op_node hR (((s1.toInt64) <<< (((32 : Int32)).toInt64 &&& 63)) ||| ((s2.toInt64) &&& (4294967295 : Int64))) (((s3.toInt64) <<< (((32 : Int32)).toInt64 &&& 63)) ||| ((s4.toInt64) &&& (4294967295 : Int64)))
  refine law1_i (rest := []) (P := (xp_O_node u (((s1.toInt64) <<< (((32 : Int32)).toInt64 &&& 63)) ||| ((s2.toInt64) &&& (4294967295 : Int64))) (((s3.toInt64) <<< (((32 : Int32)).toInt64 &&& 63)) ||| ((s4.toInt64) &&& (4294967295 : Int64))))) ⟨hx, hb, hml, hown, htG⟩ nestW_ok hK hN hA (xc_O_node l D a k3 u (((s1.toInt64) <<< (((32 : Int32)).toInt64 &&& 63)) ||| ((s2.toInt64) &&& (4294967295 : Int64))) (((s3.toInt64) <<< (((32 : Int32)).toInt64 &&& 63)) ||| ((s4.toInt64) &&& (4294967295 : Int64))) qx) (cwV 2 htG (tb_V tb_201 tb_202 tb_203 tb_20 tb_204) rfl rfl rfl (by decide +kernel) ⟨Nat.le_of_ble_eq_true rfl, Nat.le_of_ble_eq_true rfl⟩) (ci := 7) rfl (xo_0 a k3 u) rfl hw rfl hl.1 rfl (Nat.le_of_ble_eq_true rfl) dL_law_149 ⟨Nat.le_of_ble_eq_true rfl, Nat.le_of_ble_eq_true rfl⟩ (fun H locs hw => ?_)
  refine lv_aload_n hx hb dL_law_152 rfl (lv_at hl 2 rfl) ?_
  refine lv_aload_n hx hb dL_law_153 rfl (lv_at hl 0 rfl) ?_
  refine lv_iload_n hx hb dL_law_154 rfl (lv_at hl 3 rfl) ?_
  refine lv_iconst (v := 1) hx hb dL_law_155 (by decide) ?_
  refine lv_iadd hx hb dL_law_156 ?_
  refine va_sld hx hb hX hbl hbA hw.2.2.2 j1 dL_law_157 ?_
  refine lv_i2l hx hb dL_law_158 rfl ?_
  refine lv_bipush (v := 32) hx hb dL_law_159 (by decide) ?_
  refine lv_lshl hx hb dL_law_161 rfl ?_
  refine lv_aload_n hx hb dL_law_162 rfl (lv_at hl 0 rfl) ?_
  refine lv_iload_n hx hb dL_law_163 rfl (lv_at hl 3 rfl) ?_
  refine lv_iconst (v := 2) hx hb dL_law_164 (by decide) ?_
  refine lv_iadd hx hb dL_law_165 ?_
  refine va_sld hx hb hX hbl hbA hw.2.2.2 j2 dL_law_166 ?_
  refine lv_i2l hx hb dL_law_167 rfl ?_
  refine lv_ldc2 (v := 4294967295) hx hb hown (htG _ tb_712) dL_law_168 ?_
  refine lv_land hx hb dL_law_171 ?_
  refine lv_lor hx hb dL_law_172 ?_
  refine lv_aload_n hx hb dL_law_173 rfl (lv_at hl 0 rfl) ?_
  refine lv_iload_n hx hb dL_law_174 rfl (lv_at hl 3 rfl) ?_
  refine lv_iconst (v := 3) hx hb dL_law_175 (by decide) ?_
  refine lv_iadd hx hb dL_law_176 ?_
  refine va_sld hx hb hX hbl hbA hw.2.2.2 j3 dL_law_177 ?_
  refine lv_i2l hx hb dL_law_178 rfl ?_
  refine lv_bipush (v := 32) hx hb dL_law_179 (by decide) ?_
  refine lv_lshl hx hb dL_law_181 rfl ?_
  refine lv_aload_n hx hb dL_law_182 rfl (lv_at hl 0 rfl) ?_
  refine lv_iload_n hx hb dL_law_183 rfl (lv_at hl 3 rfl) ?_
  refine lv_iconst (v := 4) hx hb dL_law_184 (by decide) ?_
  refine lv_iadd hx hb dL_law_185 ?_
  refine va_sld hx hb hX hbl hbA hw.2.2.2 j4 dL_law_186 ?_
  refine lv_i2l hx hb dL_law_187 rfl ?_
  refine lv_ldc2 (v := 4294967295) hx hb hown (htG _ tb_712) dL_law_188 ?_
  refine lv_land hx hb dL_law_191 ?_
  refine lv_lor hx hb dL_law_192 ?_
  refine law2_i (rest := [.int (xp_O_node u (((s1.toInt64) <<< (((32 : Int32)).toInt64 &&& 63)) ||| ((s2.toInt64) &&& (4294967295 : Int64))) (((s3.toInt64) <<< (((32 : Int32)).toInt64 &&& 63)) ||| ((s4.toInt64) &&& (4294967295 : Int64)))).1]) (P := (mp_M_node v (((s1.toInt64) <<< (((32 : Int32)).toInt64 &&& 63)) ||| ((s2.toInt64) &&& (4294967295 : Int64))) (((s3.toInt64) <<< (((32 : Int32)).toInt64 &&& 63)) ||| ((s4.toInt64) &&& (4294967295 : Int64))))) ⟨hx, hb, hml, hown, htG⟩ nestW_ok hK hN hA (mc_M_node l D a2 k3 v (((s1.toInt64) <<< (((32 : Int32)).toInt64 &&& 63)) ||| ((s2.toInt64) &&& (4294967295 : Int64))) (((s3.toInt64) <<< (((32 : Int32)).toInt64 &&& 63)) ||| ((s4.toInt64) &&& (4294967295 : Int64))) qm) (cwV 2 htG (tb_V tb_599 tb_600 tb_601 tb_28 tb_602) rfl rfl rfl (by decide +kernel) ⟨Nat.le_of_ble_eq_true rfl, Nat.le_of_ble_eq_true rfl⟩) (ci := 8) rfl (mo_0 a2 k3 v) rfl hw rfl hl.1 rfl (Nat.le_of_ble_eq_true rfl) dL_law_193 ⟨Nat.le_of_ble_eq_true rfl, Nat.le_of_ble_eq_true rfl⟩ (fun H locs hw => ?_)
  exact lv_icmp_eq (tgt := 792) hx hb dL_law_196 (by decide) (fun _ => kk _ _ _ _ hrel hw) (fun ce => absurd heq ce)
set_option maxHeartbeats 4000000 in
set_option maxRecDepth 100000 in
theorem lw_case_1 {p : Program} {l : Launch} {e : Env} {s : State} {m : MethodId} {below : List Frame} {meth : Method} {c : Code} {D : va_G} {a a2 : Nat → Nat} {k3 : K3} {b L : Nat} {xs : Nat → Int32} (hL : L ≤ 3072) (C0 : lw_At p s m meth c b L xs) (hK : va_K D vwCl (ty3 k3) s) (hN : nw_all nestW s) (i : Nat) (x3 : Int32) (ex3 : x3 = nI i) (hi : i + 6 ≤ L) (u v : S4) (hR : Rel u v) (H : Heap) (locs : List Loc) (ls : Array Slot) (hw : wd2 D vwCl (xC a k3) (mC a2 k3) (fun q : Nat => s.heap.size ≤ q) s.heap u v H locs) (hl : lv_has ls 4 [(0, .ref b), (1, .ref (a 0)), (2, .ref (a2 0)), (3, .int x3)]) (kk : ∀ (u1 v1 : S4) (H1 : Heap) (locs1 : List Loc), Rel u1 v1 → wd2 D vwCl (xC a k3) (mC a2 k3) (fun q : Nat => s.heap.size ≤ q) s.heap u1 v1 H1 locs1 → W p l e room_1 s m #[Value.ref b] below meth c H1 locs1 54 5713 (lw_Z below #[Value.ref b] s) (F0 m 792 ls [])) : W p l e room_1 s m #[Value.ref b] below meth c H locs 54 5713 (lw_Z below #[Value.ref b] s) (F0 m 201 ls []) := by
  obtain ⟨hx, hb, hr, hml, hown, hts, hX, hbl, hlocks, hgv⟩ := id C0
  have htG := tb_hts hts
  have hown : s.vm.findClass "StreetSidesLaw" = some m.cls := hown
  have hA : ∀ q : Nat, s.heap.size ≤ q → (fun q : Nat => s.heap.size ≤ q) q := fun _ h => h
  have hbA : ¬ (fun q : Nat => s.heap.size ≤ q) b := Nat.not_le.mpr hbl
  have j1 : vp_in (x3 + 1) L := lw_in ex3 1 rfl (by omega) (by omega)
  let s1 : Int32 := xs (x3 + (1 : Int32)).toNatClampNeg
  have j2 : vp_in (x3 + 2) L := lw_in ex3 2 rfl (by omega) (by omega)
  let s2 : Int32 := xs (x3 + (2 : Int32)).toNatClampNeg
  have j3 : vp_in (x3 + 3) L := lw_in ex3 3 rfl (by omega) (by omega)
  let s3 : Int32 := xs (x3 + (3 : Int32)).toNatClampNeg
  have j4 : vp_in (x3 + 4) L := lw_in ex3 4 rfl (by omega) (by omega)
  let s4 : Int32 := xs (x3 + (4 : Int32)).toNatClampNeg
  have j5 : vp_in (x3 + 5) L := lw_in ex3 5 rfl (by omega) (by omega)
  let s5 : Int32 := xs (x3 + (5 : Int32)).toNatClampNeg
  refine lv_aload_n hx hb dL_law_201 rfl (lv_at hl 1 rfl) ?_
  refine lv_aload_n hx hb dL_law_202 rfl (lv_at hl 0 rfl) ?_
  refine lv_iload_n hx hb dL_law_203 rfl (lv_at hl 3 rfl) ?_
  refine lv_iconst (v := 1) hx hb dL_law_204 (by decide) ?_
  refine lv_iadd hx hb dL_law_205 ?_
  refine va_sld hx hb hX hbl hbA hw.2.2.2 j1 dL_law_206 ?_
  refine lv_aload_n hx hb dL_law_207 rfl (lv_at hl 0 rfl) ?_
  refine lv_iload_n hx hb dL_law_208 rfl (lv_at hl 3 rfl) ?_
  refine lv_iconst (v := 2) hx hb dL_law_209 (by decide) ?_
  refine lv_iadd hx hb dL_law_210 ?_
  refine va_sld hx hb hX hbl hbA hw.2.2.2 j2 dL_law_211 ?_
  refine lv_aload_n hx hb dL_law_212 rfl (lv_at hl 0 rfl) ?_
  refine lv_iload_n hx hb dL_law_213 rfl (lv_at hl 3 rfl) ?_
  refine lv_iconst (v := 3) hx hb dL_law_214 (by decide) ?_
  refine lv_iadd hx hb dL_law_215 ?_
  refine va_sld hx hb hX hbl hbA hw.2.2.2 j3 dL_law_216 ?_
  refine lv_aload_n hx hb dL_law_217 rfl (lv_at hl 0 rfl) ?_
  refine lv_iload_n hx hb dL_law_218 rfl (lv_at hl 3 rfl) ?_
  refine lv_iconst (v := 4) hx hb dL_law_219 (by decide) ?_
  refine lv_iadd hx hb dL_law_220 ?_
  refine va_sld hx hb hX hbl hbA hw.2.2.2 j4 dL_law_221 ?_
  obtain ⟨qx, qm, heq, hrel⟩ := op_street hR s1 s2 s3 s4
  refine law1_i (rest := []) (P := (xp_O_street u s1 s2 s3 s4)) ⟨hx, hb, hml, hown, htG⟩ nestW_ok hK hN hA (xc_O_street l D a k3 u s1 s2 s3 s4 qx) (cwV 4 htG (tb_V tb_214 tb_215 tb_216 tb_20 tb_217) rfl rfl rfl (by decide +kernel) ⟨Nat.le_of_ble_eq_true rfl, Nat.le_of_ble_eq_true rfl⟩) (ci := 7) rfl (xo_0 a k3 u) rfl hw rfl hl.1 rfl (Nat.le_of_ble_eq_true rfl) dL_law_222 ⟨Nat.le_of_ble_eq_true rfl, Nat.le_of_ble_eq_true rfl⟩ (fun H locs hw => ?_)
  refine lv_aload_n hx hb dL_law_225 rfl (lv_at hl 2 rfl) ?_
  refine lv_aload_n hx hb dL_law_226 rfl (lv_at hl 0 rfl) ?_
  refine lv_iload_n hx hb dL_law_227 rfl (lv_at hl 3 rfl) ?_
  refine lv_iconst (v := 1) hx hb dL_law_228 (by decide) ?_
  refine lv_iadd hx hb dL_law_229 ?_
  refine va_sld hx hb hX hbl hbA hw.2.2.2 j1 dL_law_230 ?_
  refine lv_aload_n hx hb dL_law_231 rfl (lv_at hl 0 rfl) ?_
  refine lv_iload_n hx hb dL_law_232 rfl (lv_at hl 3 rfl) ?_
  refine lv_iconst (v := 2) hx hb dL_law_233 (by decide) ?_
  refine lv_iadd hx hb dL_law_234 ?_
  refine va_sld hx hb hX hbl hbA hw.2.2.2 j2 dL_law_235 ?_
  refine lv_aload_n hx hb dL_law_236 rfl (lv_at hl 0 rfl) ?_
  refine lv_iload_n hx hb dL_law_237 rfl (lv_at hl 3 rfl) ?_
  refine lv_iconst (v := 3) hx hb dL_law_238 (by decide) ?_
  refine lv_iadd hx hb dL_law_239 ?_
  refine va_sld hx hb hX hbl hbA hw.2.2.2 j3 dL_law_240 ?_
  refine lv_aload_n hx hb dL_law_241 rfl (lv_at hl 0 rfl) ?_
  refine lv_iload_n hx hb dL_law_242 rfl (lv_at hl 3 rfl) ?_
  refine lv_iconst (v := 4) hx hb dL_law_243 (by decide) ?_
  refine lv_iadd hx hb dL_law_244 ?_
  refine va_sld hx hb hX hbl hbA hw.2.2.2 j4 dL_law_245 ?_
  refine law2_i (rest := [.int (xp_O_street u s1 s2 s3 s4).1]) (P := (mp_M_street v s1 s2 s3 s4)) ⟨hx, hb, hml, hown, htG⟩ nestW_ok hK hN hA (mc_M_street l D a2 k3 v s1 s2 s3 s4 qm) (cwV 4 htG (tb_V tb_608 tb_609 tb_610 tb_28 tb_611) rfl rfl rfl (by decide +kernel) ⟨Nat.le_of_ble_eq_true rfl, Nat.le_of_ble_eq_true rfl⟩) (ci := 8) rfl (mo_0 a2 k3 v) rfl hw rfl hl.1 rfl (Nat.le_of_ble_eq_true rfl) dL_law_246 ⟨Nat.le_of_ble_eq_true rfl, Nat.le_of_ble_eq_true rfl⟩ (fun H locs hw => ?_)
  exact lv_icmp_eq (tgt := 792) hx hb dL_law_249 (by decide) (fun _ => kk _ _ _ _ hrel hw) (fun ce => absurd heq ce)
set_option maxHeartbeats 4000000 in
set_option maxRecDepth 100000 in
theorem lw_case_2 {p : Program} {l : Launch} {e : Env} {s : State} {m : MethodId} {below : List Frame} {meth : Method} {c : Code} {D : va_G} {a a2 : Nat → Nat} {k3 : K3} {b L : Nat} {xs : Nat → Int32} (hL : L ≤ 3072) (C0 : lw_At p s m meth c b L xs) (hK : va_K D vwCl (ty3 k3) s) (hN : nw_all nestW s) (i : Nat) (x3 : Int32) (ex3 : x3 = nI i) (hi : i + 6 ≤ L) (u v : S4) (hR : Rel u v) (H : Heap) (locs : List Loc) (ls : Array Slot) (hw : wd2 D vwCl (xC a k3) (mC a2 k3) (fun q : Nat => s.heap.size ≤ q) s.heap u v H locs) (hl : lv_has ls 4 [(0, .ref b), (1, .ref (a 0)), (2, .ref (a2 0)), (3, .int x3)]) (kk : ∀ (u1 v1 : S4) (H1 : Heap) (locs1 : List Loc), Rel u1 v1 → wd2 D vwCl (xC a k3) (mC a2 k3) (fun q : Nat => s.heap.size ≤ q) s.heap u1 v1 H1 locs1 → W p l e room_1 s m #[Value.ref b] below meth c H1 locs1 54 5713 (lw_Z below #[Value.ref b] s) (F0 m 792 ls [])) : W p l e room_1 s m #[Value.ref b] below meth c H locs 54 5713 (lw_Z below #[Value.ref b] s) (F0 m 254 ls []) := by
  obtain ⟨hx, hb, hr, hml, hown, hts, hX, hbl, hlocks, hgv⟩ := id C0
  have htG := tb_hts hts
  have hown : s.vm.findClass "StreetSidesLaw" = some m.cls := hown
  have hA : ∀ q : Nat, s.heap.size ≤ q → (fun q : Nat => s.heap.size ≤ q) q := fun _ h => h
  have hbA : ¬ (fun q : Nat => s.heap.size ≤ q) b := Nat.not_le.mpr hbl
  have j1 : vp_in (x3 + 1) L := lw_in ex3 1 rfl (by omega) (by omega)
  let s1 : Int32 := xs (x3 + (1 : Int32)).toNatClampNeg
  have j2 : vp_in (x3 + 2) L := lw_in ex3 2 rfl (by omega) (by omega)
  let s2 : Int32 := xs (x3 + (2 : Int32)).toNatClampNeg
  have j3 : vp_in (x3 + 3) L := lw_in ex3 3 rfl (by omega) (by omega)
  let s3 : Int32 := xs (x3 + (3 : Int32)).toNatClampNeg
  have j4 : vp_in (x3 + 4) L := lw_in ex3 4 rfl (by omega) (by omega)
  let s4 : Int32 := xs (x3 + (4 : Int32)).toNatClampNeg
  have j5 : vp_in (x3 + 5) L := lw_in ex3 5 rfl (by omega) (by omega)
  let s5 : Int32 := xs (x3 + (5 : Int32)).toNatClampNeg
  refine lv_aload_n hx hb dL_law_254 rfl (lv_at hl 1 rfl) ?_
  refine lv_aload_n hx hb dL_law_255 rfl (lv_at hl 0 rfl) ?_
  refine lv_iload_n hx hb dL_law_256 rfl (lv_at hl 3 rfl) ?_
  refine lv_iconst (v := 1) hx hb dL_law_257 (by decide) ?_
  refine lv_iadd hx hb dL_law_258 ?_
  refine va_sld hx hb hX hbl hbA hw.2.2.2 j1 dL_law_259 ?_
  refine lv_aload_n hx hb dL_law_260 rfl (lv_at hl 0 rfl) ?_
  refine lv_iload_n hx hb dL_law_261 rfl (lv_at hl 3 rfl) ?_
  refine lv_iconst (v := 2) hx hb dL_law_262 (by decide) ?_
  refine lv_iadd hx hb dL_law_263 ?_
  refine va_sld hx hb hX hbl hbA hw.2.2.2 j2 dL_law_264 ?_
  refine lv_aload_n hx hb dL_law_265 rfl (lv_at hl 0 rfl) ?_
  refine lv_iload_n hx hb dL_law_266 rfl (lv_at hl 3 rfl) ?_
  refine lv_iconst (v := 3) hx hb dL_law_267 (by decide) ?_
  refine lv_iadd hx hb dL_law_268 ?_
  refine va_sld hx hb hX hbl hbA hw.2.2.2 j3 dL_law_269 ?_
  refine lv_aload_n hx hb dL_law_270 rfl (lv_at hl 0 rfl) ?_
  refine lv_iload_n hx hb dL_law_271 rfl (lv_at hl 3 rfl) ?_
  refine lv_iconst (v := 4) hx hb dL_law_272 (by decide) ?_
  refine lv_iadd hx hb dL_law_273 ?_
  refine va_sld hx hb hX hbl hbA hw.2.2.2 j4 dL_law_274 ?_
  refine lv_if_eq (tgt := 282) hx hb dL_law_275 (by decide) (fun c275 => ?_) (fun c275 => ?_)
  · refine lv_iconst (v := 0) hx hb dL_law_282 (by decide) ?_
    obtain ⟨qx, qm, heq, hrel⟩ := op_turn hR s1 s2 s3 (0 : Int32) (Or.inl rfl)
    refine law1_i (rest := []) (P := (xp_O_turn u s1 s2 s3 (0 : Int32))) ⟨hx, hb, hml, hown, htG⟩ nestW_ok hK hN hA (xc_O_turn l D a k3 u s1 s2 s3 (0 : Int32) qx) (cwV 4 htG (tb_V tb_236 tb_237 tb_238 tb_20 tb_239) rfl rfl rfl (by decide +kernel) ⟨Nat.le_of_ble_eq_true rfl, Nat.le_of_ble_eq_true rfl⟩) (ci := 7) rfl (xo_0 a k3 u) rfl hw rfl hl.1 rfl (Nat.le_of_ble_eq_true rfl) dL_law_283 ⟨Nat.le_of_ble_eq_true rfl, Nat.le_of_ble_eq_true rfl⟩ (fun H locs hw => ?_)
    refine lv_aload_n hx hb dL_law_286 rfl (lv_at hl 2 rfl) ?_
    refine lv_aload_n hx hb dL_law_287 rfl (lv_at hl 0 rfl) ?_
    refine lv_iload_n hx hb dL_law_288 rfl (lv_at hl 3 rfl) ?_
    refine lv_iconst (v := 1) hx hb dL_law_289 (by decide) ?_
    refine lv_iadd hx hb dL_law_290 ?_
    refine va_sld hx hb hX hbl hbA hw.2.2.2 j1 dL_law_291 ?_
    refine lv_aload_n hx hb dL_law_292 rfl (lv_at hl 0 rfl) ?_
    refine lv_iload_n hx hb dL_law_293 rfl (lv_at hl 3 rfl) ?_
    refine lv_iconst (v := 2) hx hb dL_law_294 (by decide) ?_
    refine lv_iadd hx hb dL_law_295 ?_
    refine va_sld hx hb hX hbl hbA hw.2.2.2 j2 dL_law_296 ?_
    refine lv_aload_n hx hb dL_law_297 rfl (lv_at hl 0 rfl) ?_
    refine lv_iload_n hx hb dL_law_298 rfl (lv_at hl 3 rfl) ?_
    refine lv_iconst (v := 3) hx hb dL_law_299 (by decide) ?_
    refine lv_iadd hx hb dL_law_300 ?_
    refine va_sld hx hb hX hbl hbA hw.2.2.2 j3 dL_law_301 ?_
    refine lv_aload_n hx hb dL_law_302 rfl (lv_at hl 0 rfl) ?_
    refine lv_iload_n hx hb dL_law_303 rfl (lv_at hl 3 rfl) ?_
    refine lv_iconst (v := 4) hx hb dL_law_304 (by decide) ?_
    refine lv_iadd hx hb dL_law_305 ?_
    refine va_sld hx hb hX hbl hbA hw.2.2.2 j4 dL_law_306 ?_
    refine lv_if_eq (tgt := 314) hx hb dL_law_307 (by decide) (fun _ => ?_) (fun c9 => absurd c275 c9)
    refine lv_iconst (v := 0) hx hb dL_law_314 (by decide) ?_
    refine law2_i (rest := [.int (xp_O_turn u s1 s2 s3 (0 : Int32)).1]) (P := (mp_M_turn v s1 s2 s3 (0 : Int32))) ⟨hx, hb, hml, hown, htG⟩ nestW_ok hK hN hA (mc_M_turn l D a2 k3 v s1 s2 s3 (0 : Int32) qm) (cwV 4 htG (tb_V tb_620 tb_621 tb_622 tb_28 tb_623) rfl rfl rfl (by decide +kernel) ⟨Nat.le_of_ble_eq_true rfl, Nat.le_of_ble_eq_true rfl⟩) (ci := 8) rfl (mo_0 a2 k3 v) rfl hw rfl hl.1 rfl (Nat.le_of_ble_eq_true rfl) dL_law_315 ⟨Nat.le_of_ble_eq_true rfl, Nat.le_of_ble_eq_true rfl⟩ (fun H locs hw => ?_)
    exact lv_icmp_eq (tgt := 792) hx hb dL_law_318 (by decide) (fun _ => kk _ _ _ _ hrel hw) (fun ce => absurd heq ce)
  · refine lv_iconst (v := 1) hx hb dL_law_278 (by decide) ?_
    refine lv_goto (tgt := 283) hx hb dL_law_279 (by decide) ?_
    obtain ⟨qx, qm, heq, hrel⟩ := op_turn hR s1 s2 s3 (1 : Int32) (Or.inr rfl)
    refine law1_i (rest := []) (P := (xp_O_turn u s1 s2 s3 (1 : Int32))) ⟨hx, hb, hml, hown, htG⟩ nestW_ok hK hN hA (xc_O_turn l D a k3 u s1 s2 s3 (1 : Int32) qx) (cwV 4 htG (tb_V tb_236 tb_237 tb_238 tb_20 tb_239) rfl rfl rfl (by decide +kernel) ⟨Nat.le_of_ble_eq_true rfl, Nat.le_of_ble_eq_true rfl⟩) (ci := 7) rfl (xo_0 a k3 u) rfl hw rfl hl.1 rfl (Nat.le_of_ble_eq_true rfl) dL_law_283 ⟨Nat.le_of_ble_eq_true rfl, Nat.le_of_ble_eq_true rfl⟩ (fun H locs hw => ?_)
    refine lv_aload_n hx hb dL_law_286 rfl (lv_at hl 2 rfl) ?_
    refine lv_aload_n hx hb dL_law_287 rfl (lv_at hl 0 rfl) ?_
    refine lv_iload_n hx hb dL_law_288 rfl (lv_at hl 3 rfl) ?_
    refine lv_iconst (v := 1) hx hb dL_law_289 (by decide) ?_
    refine lv_iadd hx hb dL_law_290 ?_
    refine va_sld hx hb hX hbl hbA hw.2.2.2 j1 dL_law_291 ?_
    refine lv_aload_n hx hb dL_law_292 rfl (lv_at hl 0 rfl) ?_
    refine lv_iload_n hx hb dL_law_293 rfl (lv_at hl 3 rfl) ?_
    refine lv_iconst (v := 2) hx hb dL_law_294 (by decide) ?_
    refine lv_iadd hx hb dL_law_295 ?_
    refine va_sld hx hb hX hbl hbA hw.2.2.2 j2 dL_law_296 ?_
    refine lv_aload_n hx hb dL_law_297 rfl (lv_at hl 0 rfl) ?_
    refine lv_iload_n hx hb dL_law_298 rfl (lv_at hl 3 rfl) ?_
    refine lv_iconst (v := 3) hx hb dL_law_299 (by decide) ?_
    refine lv_iadd hx hb dL_law_300 ?_
    refine va_sld hx hb hX hbl hbA hw.2.2.2 j3 dL_law_301 ?_
    refine lv_aload_n hx hb dL_law_302 rfl (lv_at hl 0 rfl) ?_
    refine lv_iload_n hx hb dL_law_303 rfl (lv_at hl 3 rfl) ?_
    refine lv_iconst (v := 4) hx hb dL_law_304 (by decide) ?_
    refine lv_iadd hx hb dL_law_305 ?_
    refine va_sld hx hb hX hbl hbA hw.2.2.2 j4 dL_law_306 ?_
    refine lv_if_eq (tgt := 314) hx hb dL_law_307 (by decide) (fun c9 => absurd c9 c275) (fun _ => ?_)
    refine lv_iconst (v := 1) hx hb dL_law_310 (by decide) ?_
    refine lv_goto (tgt := 315) hx hb dL_law_311 (by decide) ?_
    refine law2_i (rest := [.int (xp_O_turn u s1 s2 s3 (1 : Int32)).1]) (P := (mp_M_turn v s1 s2 s3 (1 : Int32))) ⟨hx, hb, hml, hown, htG⟩ nestW_ok hK hN hA (mc_M_turn l D a2 k3 v s1 s2 s3 (1 : Int32) qm) (cwV 4 htG (tb_V tb_620 tb_621 tb_622 tb_28 tb_623) rfl rfl rfl (by decide +kernel) ⟨Nat.le_of_ble_eq_true rfl, Nat.le_of_ble_eq_true rfl⟩) (ci := 8) rfl (mo_0 a2 k3 v) rfl hw rfl hl.1 rfl (Nat.le_of_ble_eq_true rfl) dL_law_315 ⟨Nat.le_of_ble_eq_true rfl, Nat.le_of_ble_eq_true rfl⟩ (fun H locs hw => ?_)
    exact lv_icmp_eq (tgt := 792) hx hb dL_law_318 (by decide) (fun _ => kk _ _ _ _ hrel hw) (fun ce => absurd heq ce)
set_option maxHeartbeats 4000000 in
set_option maxRecDepth 100000 in
theorem lw_case_3 {p : Program} {l : Launch} {e : Env} {s : State} {m : MethodId} {below : List Frame} {meth : Method} {c : Code} {D : va_G} {a a2 : Nat → Nat} {k3 : K3} {b L : Nat} {xs : Nat → Int32} (hL : L ≤ 3072) (C0 : lw_At p s m meth c b L xs) (hK : va_K D vwCl (ty3 k3) s) (hN : nw_all nestW s) (i : Nat) (x3 : Int32) (ex3 : x3 = nI i) (hi : i + 6 ≤ L) (u v : S4) (hR : Rel u v) (H : Heap) (locs : List Loc) (ls : Array Slot) (hw : wd2 D vwCl (xC a k3) (mC a2 k3) (fun q : Nat => s.heap.size ≤ q) s.heap u v H locs) (hl : lv_has ls 4 [(0, .ref b), (1, .ref (a 0)), (2, .ref (a2 0)), (3, .int x3)]) (kk : ∀ (u1 v1 : S4) (H1 : Heap) (locs1 : List Loc), Rel u1 v1 → wd2 D vwCl (xC a k3) (mC a2 k3) (fun q : Nat => s.heap.size ≤ q) s.heap u1 v1 H1 locs1 → W p l e room_1 s m #[Value.ref b] below meth c H1 locs1 54 5713 (lw_Z below #[Value.ref b] s) (F0 m 792 ls [])) : W p l e room_1 s m #[Value.ref b] below meth c H locs 54 5713 (lw_Z below #[Value.ref b] s) (F0 m 323 ls []) := by
  obtain ⟨hx, hb, hr, hml, hown, hts, hX, hbl, hlocks, hgv⟩ := id C0
  have htG := tb_hts hts
  have hown : s.vm.findClass "StreetSidesLaw" = some m.cls := hown
  have hA : ∀ q : Nat, s.heap.size ≤ q → (fun q : Nat => s.heap.size ≤ q) q := fun _ h => h
  have hbA : ¬ (fun q : Nat => s.heap.size ≤ q) b := Nat.not_le.mpr hbl
  have j1 : vp_in (x3 + 1) L := lw_in ex3 1 rfl (by omega) (by omega)
  let s1 : Int32 := xs (x3 + (1 : Int32)).toNatClampNeg
  have j2 : vp_in (x3 + 2) L := lw_in ex3 2 rfl (by omega) (by omega)
  let s2 : Int32 := xs (x3 + (2 : Int32)).toNatClampNeg
  have j3 : vp_in (x3 + 3) L := lw_in ex3 3 rfl (by omega) (by omega)
  let s3 : Int32 := xs (x3 + (3 : Int32)).toNatClampNeg
  have j4 : vp_in (x3 + 4) L := lw_in ex3 4 rfl (by omega) (by omega)
  let s4 : Int32 := xs (x3 + (4 : Int32)).toNatClampNeg
  have j5 : vp_in (x3 + 5) L := lw_in ex3 5 rfl (by omega) (by omega)
  let s5 : Int32 := xs (x3 + (5 : Int32)).toNatClampNeg
  refine lv_aload_n hx hb dL_law_323 rfl (lv_at hl 1 rfl) ?_
  refine lv_aload_n hx hb dL_law_324 rfl (lv_at hl 0 rfl) ?_
  refine lv_iload_n hx hb dL_law_325 rfl (lv_at hl 3 rfl) ?_
  refine lv_iconst (v := 1) hx hb dL_law_326 (by decide) ?_
  refine lv_iadd hx hb dL_law_327 ?_
  refine va_sld hx hb hX hbl hbA hw.2.2.2 j1 dL_law_328 ?_
  refine lv_aload_n hx hb dL_law_329 rfl (lv_at hl 0 rfl) ?_
  refine lv_iload_n hx hb dL_law_330 rfl (lv_at hl 3 rfl) ?_
  refine lv_iconst (v := 2) hx hb dL_law_331 (by decide) ?_
  refine lv_iadd hx hb dL_law_332 ?_
  refine va_sld hx hb hX hbl hbA hw.2.2.2 j2 dL_law_333 ?_
  refine lv_aload_n hx hb dL_law_334 rfl (lv_at hl 0 rfl) ?_
  refine lv_iload_n hx hb dL_law_335 rfl (lv_at hl 3 rfl) ?_
  refine lv_iconst (v := 3) hx hb dL_law_336 (by decide) ?_
  refine lv_iadd hx hb dL_law_337 ?_
  refine va_sld hx hb hX hbl hbA hw.2.2.2 j3 dL_law_338 ?_
  obtain ⟨qx, qm, heq, hrel⟩ := op_hours hR s1 s2 s3
  refine law1_i (rest := []) (P := (xp_O_hours u s1 s2 s3)) ⟨hx, hb, hml, hown, htG⟩ nestW_ok hK hN hA (xc_O_hours l D a k3 u s1 s2 s3 qx) (cwV 3 htG (tb_V tb_251 tb_252 tb_253 tb_20 tb_254) rfl rfl rfl (by decide +kernel) ⟨Nat.le_of_ble_eq_true rfl, Nat.le_of_ble_eq_true rfl⟩) (ci := 7) rfl (xo_0 a k3 u) rfl hw rfl hl.1 rfl (Nat.le_of_ble_eq_true rfl) dL_law_339 ⟨Nat.le_of_ble_eq_true rfl, Nat.le_of_ble_eq_true rfl⟩ (fun H locs hw => ?_)
  refine lv_aload_n hx hb dL_law_342 rfl (lv_at hl 2 rfl) ?_
  refine lv_aload_n hx hb dL_law_343 rfl (lv_at hl 0 rfl) ?_
  refine lv_iload_n hx hb dL_law_344 rfl (lv_at hl 3 rfl) ?_
  refine lv_iconst (v := 1) hx hb dL_law_345 (by decide) ?_
  refine lv_iadd hx hb dL_law_346 ?_
  refine va_sld hx hb hX hbl hbA hw.2.2.2 j1 dL_law_347 ?_
  refine lv_aload_n hx hb dL_law_348 rfl (lv_at hl 0 rfl) ?_
  refine lv_iload_n hx hb dL_law_349 rfl (lv_at hl 3 rfl) ?_
  refine lv_iconst (v := 2) hx hb dL_law_350 (by decide) ?_
  refine lv_iadd hx hb dL_law_351 ?_
  refine va_sld hx hb hX hbl hbA hw.2.2.2 j2 dL_law_352 ?_
  refine lv_aload_n hx hb dL_law_353 rfl (lv_at hl 0 rfl) ?_
  refine lv_iload_n hx hb dL_law_354 rfl (lv_at hl 3 rfl) ?_
  refine lv_iconst (v := 3) hx hb dL_law_355 (by decide) ?_
  refine lv_iadd hx hb dL_law_356 ?_
  refine va_sld hx hb hX hbl hbA hw.2.2.2 j3 dL_law_357 ?_
  refine law2_i (rest := [.int (xp_O_hours u s1 s2 s3).1]) (P := (mp_M_hours v s1 s2 s3)) ⟨hx, hb, hml, hown, htG⟩ nestW_ok hK hN hA (mc_M_hours l D a2 k3 v s1 s2 s3 qm) (cwV 3 htG (tb_V tb_629 tb_630 tb_631 tb_28 tb_632) rfl rfl rfl (by decide +kernel) ⟨Nat.le_of_ble_eq_true rfl, Nat.le_of_ble_eq_true rfl⟩) (ci := 8) rfl (mo_0 a2 k3 v) rfl hw rfl hl.1 rfl (Nat.le_of_ble_eq_true rfl) dL_law_358 ⟨Nat.le_of_ble_eq_true rfl, Nat.le_of_ble_eq_true rfl⟩ (fun H locs hw => ?_)
  exact lv_icmp_eq (tgt := 792) hx hb dL_law_361 (by decide) (fun _ => kk _ _ _ _ hrel hw) (fun ce => absurd heq ce)
set_option maxHeartbeats 4000000 in
set_option maxRecDepth 100000 in
theorem lw_case_4 {p : Program} {l : Launch} {e : Env} {s : State} {m : MethodId} {below : List Frame} {meth : Method} {c : Code} {D : va_G} {a a2 : Nat → Nat} {k3 : K3} {b L : Nat} {xs : Nat → Int32} (hL : L ≤ 3072) (C0 : lw_At p s m meth c b L xs) (hK : va_K D vwCl (ty3 k3) s) (hN : nw_all nestW s) (i : Nat) (x3 : Int32) (ex3 : x3 = nI i) (hi : i + 6 ≤ L) (u v : S4) (hR : Rel u v) (H : Heap) (locs : List Loc) (ls : Array Slot) (hw : wd2 D vwCl (xC a k3) (mC a2 k3) (fun q : Nat => s.heap.size ≤ q) s.heap u v H locs) (hl : lv_has ls 4 [(0, .ref b), (1, .ref (a 0)), (2, .ref (a2 0)), (3, .int x3)]) (kk : ∀ (u1 v1 : S4) (H1 : Heap) (locs1 : List Loc), Rel u1 v1 → wd2 D vwCl (xC a k3) (mC a2 k3) (fun q : Nat => s.heap.size ≤ q) s.heap u1 v1 H1 locs1 → W p l e room_1 s m #[Value.ref b] below meth c H1 locs1 54 5713 (lw_Z below #[Value.ref b] s) (F0 m 792 ls [])) : W p l e room_1 s m #[Value.ref b] below meth c H locs 54 5713 (lw_Z below #[Value.ref b] s) (F0 m 366 ls []) := by
  obtain ⟨hx, hb, hr, hml, hown, hts, hX, hbl, hlocks, hgv⟩ := id C0
  have htG := tb_hts hts
  have hown : s.vm.findClass "StreetSidesLaw" = some m.cls := hown
  have hA : ∀ q : Nat, s.heap.size ≤ q → (fun q : Nat => s.heap.size ≤ q) q := fun _ h => h
  have hbA : ¬ (fun q : Nat => s.heap.size ≤ q) b := Nat.not_le.mpr hbl
  have j1 : vp_in (x3 + 1) L := lw_in ex3 1 rfl (by omega) (by omega)
  let s1 : Int32 := xs (x3 + (1 : Int32)).toNatClampNeg
  have j2 : vp_in (x3 + 2) L := lw_in ex3 2 rfl (by omega) (by omega)
  let s2 : Int32 := xs (x3 + (2 : Int32)).toNatClampNeg
  have j3 : vp_in (x3 + 3) L := lw_in ex3 3 rfl (by omega) (by omega)
  let s3 : Int32 := xs (x3 + (3 : Int32)).toNatClampNeg
  have j4 : vp_in (x3 + 4) L := lw_in ex3 4 rfl (by omega) (by omega)
  let s4 : Int32 := xs (x3 + (4 : Int32)).toNatClampNeg
  have j5 : vp_in (x3 + 5) L := lw_in ex3 5 rfl (by omega) (by omega)
  let s5 : Int32 := xs (x3 + (5 : Int32)).toNatClampNeg
  refine lv_aload_n hx hb dL_law_366 rfl (lv_at hl 1 rfl) ?_
  refine lv_aload_n hx hb dL_law_367 rfl (lv_at hl 0 rfl) ?_
  refine lv_iload_n hx hb dL_law_368 rfl (lv_at hl 3 rfl) ?_
  refine lv_iconst (v := 1) hx hb dL_law_369 (by decide) ?_
  refine lv_iadd hx hb dL_law_370 ?_
  refine va_sld hx hb hX hbl hbA hw.2.2.2 j1 dL_law_371 ?_
  refine lv_aload_n hx hb dL_law_372 rfl (lv_at hl 0 rfl) ?_
  refine lv_iload_n hx hb dL_law_373 rfl (lv_at hl 3 rfl) ?_
  refine lv_iconst (v := 2) hx hb dL_law_374 (by decide) ?_
  refine lv_iadd hx hb dL_law_375 ?_
  refine va_sld hx hb hX hbl hbA hw.2.2.2 j2 dL_law_376 ?_
  refine lv_aload_n hx hb dL_law_377 rfl (lv_at hl 0 rfl) ?_
  refine lv_iload_n hx hb dL_law_378 rfl (lv_at hl 3 rfl) ?_
  refine lv_iconst (v := 3) hx hb dL_law_379 (by decide) ?_
  refine lv_iadd hx hb dL_law_380 ?_
  refine va_sld hx hb hX hbl hbA hw.2.2.2 j3 dL_law_381 ?_
  refine lv_i2l hx hb dL_law_382 rfl ?_
  refine lv_bipush (v := 32) hx hb dL_law_383 (by decide) ?_
  refine lv_lshl hx hb dL_law_385 rfl ?_
  refine lv_aload_n hx hb dL_law_386 rfl (lv_at hl 0 rfl) ?_
  refine lv_iload_n hx hb dL_law_387 rfl (lv_at hl 3 rfl) ?_
  refine lv_iconst (v := 4) hx hb dL_law_388 (by decide) ?_
  refine lv_iadd hx hb dL_law_389 ?_
  refine va_sld hx hb hX hbl hbA hw.2.2.2 j4 dL_law_390 ?_
  refine lv_i2l hx hb dL_law_391 rfl ?_
  refine lv_ldc2 (v := 4294967295) hx hb hown (htG _ tb_712) dL_law_392 ?_
  refine lv_land hx hb dL_law_395 ?_
  refine lv_lor hx hb dL_law_396 ?_
  obtain ⟨qx, qm, heq, hrel⟩ := op_limit hR s1 s2 (((s3.toInt64) <<< (((32 : Int32)).toInt64 &&& 63)) ||| ((s4.toInt64) &&& (4294967295 : Int64)))
  refine law1_i (rest := []) (P := (xp_O_limit u s1 s2 (((s3.toInt64) <<< (((32 : Int32)).toInt64 &&& 63)) ||| ((s4.toInt64) &&& (4294967295 : Int64))))) ⟨hx, hb, hml, hown, htG⟩ nestW_ok hK hN hA (xc_O_limit l D a k3 u s1 s2 (((s3.toInt64) <<< (((32 : Int32)).toInt64 &&& 63)) ||| ((s4.toInt64) &&& (4294967295 : Int64))) qx) (cwV 3 htG (tb_V tb_257 tb_258 tb_259 tb_20 tb_260) rfl rfl rfl (by decide +kernel) ⟨Nat.le_of_ble_eq_true rfl, Nat.le_of_ble_eq_true rfl⟩) (ci := 7) rfl (xo_0 a k3 u) rfl hw rfl hl.1 rfl (Nat.le_of_ble_eq_true rfl) dL_law_397 ⟨Nat.le_of_ble_eq_true rfl, Nat.le_of_ble_eq_true rfl⟩ (fun H locs hw => ?_)
  refine lv_aload_n hx hb dL_law_400 rfl (lv_at hl 2 rfl) ?_
  refine lv_aload_n hx hb dL_law_401 rfl (lv_at hl 0 rfl) ?_
  refine lv_iload_n hx hb dL_law_402 rfl (lv_at hl 3 rfl) ?_
  refine lv_iconst (v := 1) hx hb dL_law_403 (by decide) ?_
  refine lv_iadd hx hb dL_law_404 ?_
  refine va_sld hx hb hX hbl hbA hw.2.2.2 j1 dL_law_405 ?_
  refine lv_aload_n hx hb dL_law_406 rfl (lv_at hl 0 rfl) ?_
  refine lv_iload_n hx hb dL_law_407 rfl (lv_at hl 3 rfl) ?_
  refine lv_iconst (v := 2) hx hb dL_law_408 (by decide) ?_
  refine lv_iadd hx hb dL_law_409 ?_
  refine va_sld hx hb hX hbl hbA hw.2.2.2 j2 dL_law_410 ?_
  refine lv_aload_n hx hb dL_law_411 rfl (lv_at hl 0 rfl) ?_
  refine lv_iload_n hx hb dL_law_412 rfl (lv_at hl 3 rfl) ?_
  refine lv_iconst (v := 3) hx hb dL_law_413 (by decide) ?_
  refine lv_iadd hx hb dL_law_414 ?_
  refine va_sld hx hb hX hbl hbA hw.2.2.2 j3 dL_law_415 ?_
  refine lv_i2l hx hb dL_law_416 rfl ?_
  refine lv_bipush (v := 32) hx hb dL_law_417 (by decide) ?_
  refine lv_lshl hx hb dL_law_419 rfl ?_
  refine lv_aload_n hx hb dL_law_420 rfl (lv_at hl 0 rfl) ?_
  refine lv_iload_n hx hb dL_law_421 rfl (lv_at hl 3 rfl) ?_
  refine lv_iconst (v := 4) hx hb dL_law_422 (by decide) ?_
  refine lv_iadd hx hb dL_law_423 ?_
  refine va_sld hx hb hX hbl hbA hw.2.2.2 j4 dL_law_424 ?_
  refine lv_i2l hx hb dL_law_425 rfl ?_
  refine lv_ldc2 (v := 4294967295) hx hb hown (htG _ tb_712) dL_law_426 ?_
  refine lv_land hx hb dL_law_429 ?_
  refine lv_lor hx hb dL_law_430 ?_
  refine law2_i (rest := [.int (xp_O_limit u s1 s2 (((s3.toInt64) <<< (((32 : Int32)).toInt64 &&& 63)) ||| ((s4.toInt64) &&& (4294967295 : Int64)))).1]) (P := (mp_M_limit v s1 s2 (((s3.toInt64) <<< (((32 : Int32)).toInt64 &&& 63)) ||| ((s4.toInt64) &&& (4294967295 : Int64))))) ⟨hx, hb, hml, hown, htG⟩ nestW_ok hK hN hA (mc_M_limit l D a2 k3 v s1 s2 (((s3.toInt64) <<< (((32 : Int32)).toInt64 &&& 63)) ||| ((s4.toInt64) &&& (4294967295 : Int64))) qm) (cwV 3 htG (tb_V tb_634 tb_635 tb_636 tb_28 tb_637) rfl rfl rfl (by decide +kernel) ⟨Nat.le_of_ble_eq_true rfl, Nat.le_of_ble_eq_true rfl⟩) (ci := 8) rfl (mo_0 a2 k3 v) rfl hw rfl hl.1 rfl (Nat.le_of_ble_eq_true rfl) dL_law_431 ⟨Nat.le_of_ble_eq_true rfl, Nat.le_of_ble_eq_true rfl⟩ (fun H locs hw => ?_)
  exact lv_icmp_eq (tgt := 792) hx hb dL_law_434 (by decide) (fun _ => kk _ _ _ _ hrel hw) (fun ce => absurd heq ce)
set_option maxHeartbeats 4000000 in
set_option maxRecDepth 100000 in
theorem lw_case_5 {p : Program} {l : Launch} {e : Env} {s : State} {m : MethodId} {below : List Frame} {meth : Method} {c : Code} {D : va_G} {a a2 : Nat → Nat} {k3 : K3} {b L : Nat} {xs : Nat → Int32} (hL : L ≤ 3072) (C0 : lw_At p s m meth c b L xs) (hK : va_K D vwCl (ty3 k3) s) (hN : nw_all nestW s) (i : Nat) (x3 : Int32) (ex3 : x3 = nI i) (hi : i + 6 ≤ L) (u v : S4) (hR : Rel u v) (H : Heap) (locs : List Loc) (ls : Array Slot) (hw : wd2 D vwCl (xC a k3) (mC a2 k3) (fun q : Nat => s.heap.size ≤ q) s.heap u v H locs) (hl : lv_has ls 4 [(0, .ref b), (1, .ref (a 0)), (2, .ref (a2 0)), (3, .int x3)]) (kk : ∀ (u1 v1 : S4) (H1 : Heap) (locs1 : List Loc), Rel u1 v1 → wd2 D vwCl (xC a k3) (mC a2 k3) (fun q : Nat => s.heap.size ≤ q) s.heap u1 v1 H1 locs1 → W p l e room_1 s m #[Value.ref b] below meth c H1 locs1 54 5713 (lw_Z below #[Value.ref b] s) (F0 m 792 ls [])) : W p l e room_1 s m #[Value.ref b] below meth c H locs 54 5713 (lw_Z below #[Value.ref b] s) (F0 m 439 ls []) := by
  obtain ⟨hx, hb, hr, hml, hown, hts, hX, hbl, hlocks, hgv⟩ := id C0
  have htG := tb_hts hts
  have hown : s.vm.findClass "StreetSidesLaw" = some m.cls := hown
  have hA : ∀ q : Nat, s.heap.size ≤ q → (fun q : Nat => s.heap.size ≤ q) q := fun _ h => h
  have hbA : ¬ (fun q : Nat => s.heap.size ≤ q) b := Nat.not_le.mpr hbl
  have j1 : vp_in (x3 + 1) L := lw_in ex3 1 rfl (by omega) (by omega)
  let s1 : Int32 := xs (x3 + (1 : Int32)).toNatClampNeg
  have j2 : vp_in (x3 + 2) L := lw_in ex3 2 rfl (by omega) (by omega)
  let s2 : Int32 := xs (x3 + (2 : Int32)).toNatClampNeg
  have j3 : vp_in (x3 + 3) L := lw_in ex3 3 rfl (by omega) (by omega)
  let s3 : Int32 := xs (x3 + (3 : Int32)).toNatClampNeg
  have j4 : vp_in (x3 + 4) L := lw_in ex3 4 rfl (by omega) (by omega)
  let s4 : Int32 := xs (x3 + (4 : Int32)).toNatClampNeg
  have j5 : vp_in (x3 + 5) L := lw_in ex3 5 rfl (by omega) (by omega)
  let s5 : Int32 := xs (x3 + (5 : Int32)).toNatClampNeg
  refine lv_aload_n hx hb dL_law_439 rfl (lv_at hl 1 rfl) ?_
  refine lv_aload_n hx hb dL_law_440 rfl (lv_at hl 0 rfl) ?_
  refine lv_iload_n hx hb dL_law_441 rfl (lv_at hl 3 rfl) ?_
  refine lv_iconst (v := 1) hx hb dL_law_442 (by decide) ?_
  refine lv_iadd hx hb dL_law_443 ?_
  refine va_sld hx hb hX hbl hbA hw.2.2.2 j1 dL_law_444 ?_
  refine lv_aload_n hx hb dL_law_445 rfl (lv_at hl 0 rfl) ?_
  refine lv_iload_n hx hb dL_law_446 rfl (lv_at hl 3 rfl) ?_
  refine lv_iconst (v := 2) hx hb dL_law_447 (by decide) ?_
  refine lv_iadd hx hb dL_law_448 ?_
  refine va_sld hx hb hX hbl hbA hw.2.2.2 j2 dL_law_449 ?_
  refine lv_if_eq (tgt := 457) hx hb dL_law_450 (by decide) (fun c450 => ?_) (fun c450 => ?_)
  · refine lv_iconst (v := 0) hx hb dL_law_457 (by decide) ?_
    obtain ⟨qx, qm, heq, hrel⟩ := op_deadEnd hR s1 (0 : Int32) (Or.inl rfl)
    refine law1_i (rest := []) (P := (xp_O_deadEnd u s1 (0 : Int32))) ⟨hx, hb, hml, hown, htG⟩ nestW_ok hK hN hA (xc_O_deadEnd l D a k3 u s1 (0 : Int32) qx) (cwV 2 htG (tb_V tb_263 tb_264 tb_265 tb_20 tb_266) rfl rfl rfl (by decide +kernel) ⟨Nat.le_of_ble_eq_true rfl, Nat.le_of_ble_eq_true rfl⟩) (ci := 7) rfl (xo_0 a k3 u) rfl hw rfl hl.1 rfl (Nat.le_of_ble_eq_true rfl) dL_law_458 ⟨Nat.le_of_ble_eq_true rfl, Nat.le_of_ble_eq_true rfl⟩ (fun H locs hw => ?_)
    refine lv_aload_n hx hb dL_law_461 rfl (lv_at hl 2 rfl) ?_
    refine lv_aload_n hx hb dL_law_462 rfl (lv_at hl 0 rfl) ?_
    refine lv_iload_n hx hb dL_law_463 rfl (lv_at hl 3 rfl) ?_
    refine lv_iconst (v := 1) hx hb dL_law_464 (by decide) ?_
    refine lv_iadd hx hb dL_law_465 ?_
    refine va_sld hx hb hX hbl hbA hw.2.2.2 j1 dL_law_466 ?_
    refine lv_aload_n hx hb dL_law_467 rfl (lv_at hl 0 rfl) ?_
    refine lv_iload_n hx hb dL_law_468 rfl (lv_at hl 3 rfl) ?_
    refine lv_iconst (v := 2) hx hb dL_law_469 (by decide) ?_
    refine lv_iadd hx hb dL_law_470 ?_
    refine va_sld hx hb hX hbl hbA hw.2.2.2 j2 dL_law_471 ?_
    refine lv_if_eq (tgt := 479) hx hb dL_law_472 (by decide) (fun _ => ?_) (fun c9 => absurd c450 c9)
    refine lv_iconst (v := 0) hx hb dL_law_479 (by decide) ?_
    refine law2_i (rest := [.int (xp_O_deadEnd u s1 (0 : Int32)).1]) (P := (mp_M_deadEnd v s1 (0 : Int32))) ⟨hx, hb, hml, hown, htG⟩ nestW_ok hK hN hA (mc_M_deadEnd l D a2 k3 v s1 (0 : Int32) qm) (cwV 2 htG (tb_V tb_638 tb_639 tb_640 tb_28 tb_641) rfl rfl rfl (by decide +kernel) ⟨Nat.le_of_ble_eq_true rfl, Nat.le_of_ble_eq_true rfl⟩) (ci := 8) rfl (mo_0 a2 k3 v) rfl hw rfl hl.1 rfl (Nat.le_of_ble_eq_true rfl) dL_law_480 ⟨Nat.le_of_ble_eq_true rfl, Nat.le_of_ble_eq_true rfl⟩ (fun H locs hw => ?_)
    exact lv_icmp_eq (tgt := 792) hx hb dL_law_483 (by decide) (fun _ => kk _ _ _ _ hrel hw) (fun ce => absurd heq ce)
  · refine lv_iconst (v := 1) hx hb dL_law_453 (by decide) ?_
    refine lv_goto (tgt := 458) hx hb dL_law_454 (by decide) ?_
    obtain ⟨qx, qm, heq, hrel⟩ := op_deadEnd hR s1 (1 : Int32) (Or.inr rfl)
    refine law1_i (rest := []) (P := (xp_O_deadEnd u s1 (1 : Int32))) ⟨hx, hb, hml, hown, htG⟩ nestW_ok hK hN hA (xc_O_deadEnd l D a k3 u s1 (1 : Int32) qx) (cwV 2 htG (tb_V tb_263 tb_264 tb_265 tb_20 tb_266) rfl rfl rfl (by decide +kernel) ⟨Nat.le_of_ble_eq_true rfl, Nat.le_of_ble_eq_true rfl⟩) (ci := 7) rfl (xo_0 a k3 u) rfl hw rfl hl.1 rfl (Nat.le_of_ble_eq_true rfl) dL_law_458 ⟨Nat.le_of_ble_eq_true rfl, Nat.le_of_ble_eq_true rfl⟩ (fun H locs hw => ?_)
    refine lv_aload_n hx hb dL_law_461 rfl (lv_at hl 2 rfl) ?_
    refine lv_aload_n hx hb dL_law_462 rfl (lv_at hl 0 rfl) ?_
    refine lv_iload_n hx hb dL_law_463 rfl (lv_at hl 3 rfl) ?_
    refine lv_iconst (v := 1) hx hb dL_law_464 (by decide) ?_
    refine lv_iadd hx hb dL_law_465 ?_
    refine va_sld hx hb hX hbl hbA hw.2.2.2 j1 dL_law_466 ?_
    refine lv_aload_n hx hb dL_law_467 rfl (lv_at hl 0 rfl) ?_
    refine lv_iload_n hx hb dL_law_468 rfl (lv_at hl 3 rfl) ?_
    refine lv_iconst (v := 2) hx hb dL_law_469 (by decide) ?_
    refine lv_iadd hx hb dL_law_470 ?_
    refine va_sld hx hb hX hbl hbA hw.2.2.2 j2 dL_law_471 ?_
    refine lv_if_eq (tgt := 479) hx hb dL_law_472 (by decide) (fun c9 => absurd c9 c450) (fun _ => ?_)
    refine lv_iconst (v := 1) hx hb dL_law_475 (by decide) ?_
    refine lv_goto (tgt := 480) hx hb dL_law_476 (by decide) ?_
    refine law2_i (rest := [.int (xp_O_deadEnd u s1 (1 : Int32)).1]) (P := (mp_M_deadEnd v s1 (1 : Int32))) ⟨hx, hb, hml, hown, htG⟩ nestW_ok hK hN hA (mc_M_deadEnd l D a2 k3 v s1 (1 : Int32) qm) (cwV 2 htG (tb_V tb_638 tb_639 tb_640 tb_28 tb_641) rfl rfl rfl (by decide +kernel) ⟨Nat.le_of_ble_eq_true rfl, Nat.le_of_ble_eq_true rfl⟩) (ci := 8) rfl (mo_0 a2 k3 v) rfl hw rfl hl.1 rfl (Nat.le_of_ble_eq_true rfl) dL_law_480 ⟨Nat.le_of_ble_eq_true rfl, Nat.le_of_ble_eq_true rfl⟩ (fun H locs hw => ?_)
    exact lv_icmp_eq (tgt := 792) hx hb dL_law_483 (by decide) (fun _ => kk _ _ _ _ hrel hw) (fun ce => absurd heq ce)
set_option maxHeartbeats 4000000 in
set_option maxRecDepth 100000 in
theorem lw_case_6 {p : Program} {l : Launch} {e : Env} {s : State} {m : MethodId} {below : List Frame} {meth : Method} {c : Code} {D : va_G} {a a2 : Nat → Nat} {k3 : K3} {b L : Nat} {xs : Nat → Int32} (hL : L ≤ 3072) (C0 : lw_At p s m meth c b L xs) (hK : va_K D vwCl (ty3 k3) s) (hN : nw_all nestW s) (i : Nat) (x3 : Int32) (ex3 : x3 = nI i) (hi : i + 6 ≤ L) (u v : S4) (hR : Rel u v) (H : Heap) (locs : List Loc) (ls : Array Slot) (hw : wd2 D vwCl (xC a k3) (mC a2 k3) (fun q : Nat => s.heap.size ≤ q) s.heap u v H locs) (hl : lv_has ls 4 [(0, .ref b), (1, .ref (a 0)), (2, .ref (a2 0)), (3, .int x3)]) (kk : ∀ (u1 v1 : S4) (H1 : Heap) (locs1 : List Loc), Rel u1 v1 → wd2 D vwCl (xC a k3) (mC a2 k3) (fun q : Nat => s.heap.size ≤ q) s.heap u1 v1 H1 locs1 → W p l e room_1 s m #[Value.ref b] below meth c H1 locs1 54 5713 (lw_Z below #[Value.ref b] s) (F0 m 792 ls [])) : W p l e room_1 s m #[Value.ref b] below meth c H locs 54 5713 (lw_Z below #[Value.ref b] s) (F0 m 488 ls []) := by
  obtain ⟨hx, hb, hr, hml, hown, hts, hX, hbl, hlocks, hgv⟩ := id C0
  have htG := tb_hts hts
  have hown : s.vm.findClass "StreetSidesLaw" = some m.cls := hown
  have hA : ∀ q : Nat, s.heap.size ≤ q → (fun q : Nat => s.heap.size ≤ q) q := fun _ h => h
  have hbA : ¬ (fun q : Nat => s.heap.size ≤ q) b := Nat.not_le.mpr hbl
  have j1 : vp_in (x3 + 1) L := lw_in ex3 1 rfl (by omega) (by omega)
  let s1 : Int32 := xs (x3 + (1 : Int32)).toNatClampNeg
  have j2 : vp_in (x3 + 2) L := lw_in ex3 2 rfl (by omega) (by omega)
  let s2 : Int32 := xs (x3 + (2 : Int32)).toNatClampNeg
  have j3 : vp_in (x3 + 3) L := lw_in ex3 3 rfl (by omega) (by omega)
  let s3 : Int32 := xs (x3 + (3 : Int32)).toNatClampNeg
  have j4 : vp_in (x3 + 4) L := lw_in ex3 4 rfl (by omega) (by omega)
  let s4 : Int32 := xs (x3 + (4 : Int32)).toNatClampNeg
  have j5 : vp_in (x3 + 5) L := lw_in ex3 5 rfl (by omega) (by omega)
  let s5 : Int32 := xs (x3 + (5 : Int32)).toNatClampNeg
  refine lv_aload_n hx hb dL_law_488 rfl (lv_at hl 1 rfl) ?_
  refine lv_aload_n hx hb dL_law_489 rfl (lv_at hl 0 rfl) ?_
  refine lv_iload_n hx hb dL_law_490 rfl (lv_at hl 3 rfl) ?_
  refine lv_iconst (v := 1) hx hb dL_law_491 (by decide) ?_
  refine lv_iadd hx hb dL_law_492 ?_
  refine va_sld hx hb hX hbl hbA hw.2.2.2 j1 dL_law_493 ?_
  refine lv_aload_n hx hb dL_law_494 rfl (lv_at hl 0 rfl) ?_
  refine lv_iload_n hx hb dL_law_495 rfl (lv_at hl 3 rfl) ?_
  refine lv_iconst (v := 2) hx hb dL_law_496 (by decide) ?_
  refine lv_iadd hx hb dL_law_497 ?_
  refine va_sld hx hb hX hbl hbA hw.2.2.2 j2 dL_law_498 ?_
  refine lv_aload_n hx hb dL_law_499 rfl (lv_at hl 0 rfl) ?_
  refine lv_iload_n hx hb dL_law_500 rfl (lv_at hl 3 rfl) ?_
  refine lv_iconst (v := 3) hx hb dL_law_501 (by decide) ?_
  refine lv_iadd hx hb dL_law_502 ?_
  refine va_sld hx hb hX hbl hbA hw.2.2.2 j3 dL_law_503 ?_
  refine lv_if_eq (tgt := 511) hx hb dL_law_504 (by decide) (fun c504 => ?_) (fun c504 => ?_)
  · refine lv_iconst (v := 0) hx hb dL_law_511 (by decide) ?_
    obtain ⟨qx, qm, heq, hrel⟩ := op_close hR s1 s2 (0 : Int32) (Or.inl rfl)
    refine law1_i (rest := []) (P := (xp_O_close u s1 s2 (0 : Int32))) ⟨hx, hb, hml, hown, htG⟩ nestW_ok hK hN hA (xc_O_close l D a k3 u s1 s2 (0 : Int32) qx) (cwV 3 htG (tb_V tb_271 tb_272 tb_273 tb_20 tb_274) rfl rfl rfl (by decide +kernel) ⟨Nat.le_of_ble_eq_true rfl, Nat.le_of_ble_eq_true rfl⟩) (ci := 7) rfl (xo_0 a k3 u) rfl hw rfl hl.1 rfl (Nat.le_of_ble_eq_true rfl) dL_law_512 ⟨Nat.le_of_ble_eq_true rfl, Nat.le_of_ble_eq_true rfl⟩ (fun H locs hw => ?_)
    refine lv_aload_n hx hb dL_law_515 rfl (lv_at hl 2 rfl) ?_
    refine lv_aload_n hx hb dL_law_516 rfl (lv_at hl 0 rfl) ?_
    refine lv_iload_n hx hb dL_law_517 rfl (lv_at hl 3 rfl) ?_
    refine lv_iconst (v := 1) hx hb dL_law_518 (by decide) ?_
    refine lv_iadd hx hb dL_law_519 ?_
    refine va_sld hx hb hX hbl hbA hw.2.2.2 j1 dL_law_520 ?_
    refine lv_aload_n hx hb dL_law_521 rfl (lv_at hl 0 rfl) ?_
    refine lv_iload_n hx hb dL_law_522 rfl (lv_at hl 3 rfl) ?_
    refine lv_iconst (v := 2) hx hb dL_law_523 (by decide) ?_
    refine lv_iadd hx hb dL_law_524 ?_
    refine va_sld hx hb hX hbl hbA hw.2.2.2 j2 dL_law_525 ?_
    refine lv_aload_n hx hb dL_law_526 rfl (lv_at hl 0 rfl) ?_
    refine lv_iload_n hx hb dL_law_527 rfl (lv_at hl 3 rfl) ?_
    refine lv_iconst (v := 3) hx hb dL_law_528 (by decide) ?_
    refine lv_iadd hx hb dL_law_529 ?_
    refine va_sld hx hb hX hbl hbA hw.2.2.2 j3 dL_law_530 ?_
    refine lv_if_eq (tgt := 538) hx hb dL_law_531 (by decide) (fun _ => ?_) (fun c9 => absurd c504 c9)
    refine lv_iconst (v := 0) hx hb dL_law_538 (by decide) ?_
    refine law2_i (rest := [.int (xp_O_close u s1 s2 (0 : Int32)).1]) (P := (mp_M_close v s1 s2 (0 : Int32))) ⟨hx, hb, hml, hown, htG⟩ nestW_ok hK hN hA (mc_M_close l D a2 k3 v s1 s2 (0 : Int32) qm) (cwV 3 htG (tb_V tb_642 tb_643 tb_644 tb_28 tb_645) rfl rfl rfl (by decide +kernel) ⟨Nat.le_of_ble_eq_true rfl, Nat.le_of_ble_eq_true rfl⟩) (ci := 8) rfl (mo_0 a2 k3 v) rfl hw rfl hl.1 rfl (Nat.le_of_ble_eq_true rfl) dL_law_539 ⟨Nat.le_of_ble_eq_true rfl, Nat.le_of_ble_eq_true rfl⟩ (fun H locs hw => ?_)
    exact lv_icmp_eq (tgt := 792) hx hb dL_law_542 (by decide) (fun _ => kk _ _ _ _ hrel hw) (fun ce => absurd heq ce)
  · refine lv_iconst (v := 1) hx hb dL_law_507 (by decide) ?_
    refine lv_goto (tgt := 512) hx hb dL_law_508 (by decide) ?_
    obtain ⟨qx, qm, heq, hrel⟩ := op_close hR s1 s2 (1 : Int32) (Or.inr rfl)
    refine law1_i (rest := []) (P := (xp_O_close u s1 s2 (1 : Int32))) ⟨hx, hb, hml, hown, htG⟩ nestW_ok hK hN hA (xc_O_close l D a k3 u s1 s2 (1 : Int32) qx) (cwV 3 htG (tb_V tb_271 tb_272 tb_273 tb_20 tb_274) rfl rfl rfl (by decide +kernel) ⟨Nat.le_of_ble_eq_true rfl, Nat.le_of_ble_eq_true rfl⟩) (ci := 7) rfl (xo_0 a k3 u) rfl hw rfl hl.1 rfl (Nat.le_of_ble_eq_true rfl) dL_law_512 ⟨Nat.le_of_ble_eq_true rfl, Nat.le_of_ble_eq_true rfl⟩ (fun H locs hw => ?_)
    refine lv_aload_n hx hb dL_law_515 rfl (lv_at hl 2 rfl) ?_
    refine lv_aload_n hx hb dL_law_516 rfl (lv_at hl 0 rfl) ?_
    refine lv_iload_n hx hb dL_law_517 rfl (lv_at hl 3 rfl) ?_
    refine lv_iconst (v := 1) hx hb dL_law_518 (by decide) ?_
    refine lv_iadd hx hb dL_law_519 ?_
    refine va_sld hx hb hX hbl hbA hw.2.2.2 j1 dL_law_520 ?_
    refine lv_aload_n hx hb dL_law_521 rfl (lv_at hl 0 rfl) ?_
    refine lv_iload_n hx hb dL_law_522 rfl (lv_at hl 3 rfl) ?_
    refine lv_iconst (v := 2) hx hb dL_law_523 (by decide) ?_
    refine lv_iadd hx hb dL_law_524 ?_
    refine va_sld hx hb hX hbl hbA hw.2.2.2 j2 dL_law_525 ?_
    refine lv_aload_n hx hb dL_law_526 rfl (lv_at hl 0 rfl) ?_
    refine lv_iload_n hx hb dL_law_527 rfl (lv_at hl 3 rfl) ?_
    refine lv_iconst (v := 3) hx hb dL_law_528 (by decide) ?_
    refine lv_iadd hx hb dL_law_529 ?_
    refine va_sld hx hb hX hbl hbA hw.2.2.2 j3 dL_law_530 ?_
    refine lv_if_eq (tgt := 538) hx hb dL_law_531 (by decide) (fun c9 => absurd c9 c504) (fun _ => ?_)
    refine lv_iconst (v := 1) hx hb dL_law_534 (by decide) ?_
    refine lv_goto (tgt := 539) hx hb dL_law_535 (by decide) ?_
    refine law2_i (rest := [.int (xp_O_close u s1 s2 (1 : Int32)).1]) (P := (mp_M_close v s1 s2 (1 : Int32))) ⟨hx, hb, hml, hown, htG⟩ nestW_ok hK hN hA (mc_M_close l D a2 k3 v s1 s2 (1 : Int32) qm) (cwV 3 htG (tb_V tb_642 tb_643 tb_644 tb_28 tb_645) rfl rfl rfl (by decide +kernel) ⟨Nat.le_of_ble_eq_true rfl, Nat.le_of_ble_eq_true rfl⟩) (ci := 8) rfl (mo_0 a2 k3 v) rfl hw rfl hl.1 rfl (Nat.le_of_ble_eq_true rfl) dL_law_539 ⟨Nat.le_of_ble_eq_true rfl, Nat.le_of_ble_eq_true rfl⟩ (fun H locs hw => ?_)
    exact lv_icmp_eq (tgt := 792) hx hb dL_law_542 (by decide) (fun _ => kk _ _ _ _ hrel hw) (fun ce => absurd heq ce)
set_option maxHeartbeats 4000000 in
set_option maxRecDepth 100000 in
theorem lw_case_7 {p : Program} {l : Launch} {e : Env} {s : State} {m : MethodId} {below : List Frame} {meth : Method} {c : Code} {D : va_G} {a a2 : Nat → Nat} {k3 : K3} {b L : Nat} {xs : Nat → Int32} (hL : L ≤ 3072) (C0 : lw_At p s m meth c b L xs) (hK : va_K D vwCl (ty3 k3) s) (hN : nw_all nestW s) (i : Nat) (x3 : Int32) (ex3 : x3 = nI i) (hi : i + 6 ≤ L) (u v : S4) (hR : Rel u v) (H : Heap) (locs : List Loc) (ls : Array Slot) (hw : wd2 D vwCl (xC a k3) (mC a2 k3) (fun q : Nat => s.heap.size ≤ q) s.heap u v H locs) (hl : lv_has ls 4 [(0, .ref b), (1, .ref (a 0)), (2, .ref (a2 0)), (3, .int x3)]) (kk : ∀ (u1 v1 : S4) (H1 : Heap) (locs1 : List Loc), Rel u1 v1 → wd2 D vwCl (xC a k3) (mC a2 k3) (fun q : Nat => s.heap.size ≤ q) s.heap u1 v1 H1 locs1 → W p l e room_1 s m #[Value.ref b] below meth c H1 locs1 54 5713 (lw_Z below #[Value.ref b] s) (F0 m 792 ls [])) : W p l e room_1 s m #[Value.ref b] below meth c H locs 54 5713 (lw_Z below #[Value.ref b] s) (F0 m 547 ls []) := by
  obtain ⟨hx, hb, hr, hml, hown, hts, hX, hbl, hlocks, hgv⟩ := id C0
  have htG := tb_hts hts
  have hown : s.vm.findClass "StreetSidesLaw" = some m.cls := hown
  have hA : ∀ q : Nat, s.heap.size ≤ q → (fun q : Nat => s.heap.size ≤ q) q := fun _ h => h
  have hbA : ¬ (fun q : Nat => s.heap.size ≤ q) b := Nat.not_le.mpr hbl
  have j1 : vp_in (x3 + 1) L := lw_in ex3 1 rfl (by omega) (by omega)
  let s1 : Int32 := xs (x3 + (1 : Int32)).toNatClampNeg
  have j2 : vp_in (x3 + 2) L := lw_in ex3 2 rfl (by omega) (by omega)
  let s2 : Int32 := xs (x3 + (2 : Int32)).toNatClampNeg
  have j3 : vp_in (x3 + 3) L := lw_in ex3 3 rfl (by omega) (by omega)
  let s3 : Int32 := xs (x3 + (3 : Int32)).toNatClampNeg
  have j4 : vp_in (x3 + 4) L := lw_in ex3 4 rfl (by omega) (by omega)
  let s4 : Int32 := xs (x3 + (4 : Int32)).toNatClampNeg
  have j5 : vp_in (x3 + 5) L := lw_in ex3 5 rfl (by omega) (by omega)
  let s5 : Int32 := xs (x3 + (5 : Int32)).toNatClampNeg
  refine lv_aload_n hx hb dL_law_547 rfl (lv_at hl 1 rfl) ?_
  refine lv_aload_n hx hb dL_law_548 rfl (lv_at hl 0 rfl) ?_
  refine lv_iload_n hx hb dL_law_549 rfl (lv_at hl 3 rfl) ?_
  refine lv_iconst (v := 1) hx hb dL_law_550 (by decide) ?_
  refine lv_iadd hx hb dL_law_551 ?_
  refine va_sld hx hb hX hbl hbA hw.2.2.2 j1 dL_law_552 ?_
  refine lv_aload_n hx hb dL_law_553 rfl (lv_at hl 0 rfl) ?_
  refine lv_iload_n hx hb dL_law_554 rfl (lv_at hl 3 rfl) ?_
  refine lv_iconst (v := 2) hx hb dL_law_555 (by decide) ?_
  refine lv_iadd hx hb dL_law_556 ?_
  refine va_sld hx hb hX hbl hbA hw.2.2.2 j2 dL_law_557 ?_
  refine lv_aload_n hx hb dL_law_558 rfl (lv_at hl 0 rfl) ?_
  refine lv_iload_n hx hb dL_law_559 rfl (lv_at hl 3 rfl) ?_
  refine lv_iconst (v := 3) hx hb dL_law_560 (by decide) ?_
  refine lv_iadd hx hb dL_law_561 ?_
  refine va_sld hx hb hX hbl hbA hw.2.2.2 j3 dL_law_562 ?_
  refine lv_aload_n hx hb dL_law_563 rfl (lv_at hl 0 rfl) ?_
  refine lv_iload_n hx hb dL_law_564 rfl (lv_at hl 3 rfl) ?_
  refine lv_iconst (v := 4) hx hb dL_law_565 (by decide) ?_
  refine lv_iadd hx hb dL_law_566 ?_
  refine va_sld hx hb hX hbl hbA hw.2.2.2 j4 dL_law_567 ?_
  refine lv_aload_n hx hb dL_law_568 rfl (lv_at hl 0 rfl) ?_
  refine lv_iload_n hx hb dL_law_569 rfl (lv_at hl 3 rfl) ?_
  refine lv_iconst (v := 5) hx hb dL_law_570 (by decide) ?_
  refine lv_iadd hx hb dL_law_571 ?_
  refine va_sld hx hb hX hbl hbA hw.2.2.2 j5 dL_law_572 ?_
  obtain ⟨qx, qm, heq, hrel⟩ := op_least hR s1 s2 s3 s4 s5
  refine law1_i (rest := []) (P := (xp_O_least u s1 s2 s3 s4 s5)) ⟨hx, hb, hml, hown, htG⟩ nestW_ok hK hN hA (xc_O_least l D a k3 u s1 s2 s3 s4 s5 qx) (cwV 5 htG (tb_V tb_286 tb_287 tb_288 tb_20 tb_289) rfl rfl rfl (by decide +kernel) ⟨Nat.le_of_ble_eq_true rfl, Nat.le_of_ble_eq_true rfl⟩) (ci := 7) rfl (xo_0 a k3 u) rfl hw rfl hl.1 rfl (Nat.le_of_ble_eq_true rfl) dL_law_573 ⟨Nat.le_of_ble_eq_true rfl, Nat.le_of_ble_eq_true rfl⟩ (fun H locs hw => ?_)
  refine lv_aload_n hx hb dL_law_576 rfl (lv_at hl 2 rfl) ?_
  refine lv_aload_n hx hb dL_law_577 rfl (lv_at hl 0 rfl) ?_
  refine lv_iload_n hx hb dL_law_578 rfl (lv_at hl 3 rfl) ?_
  refine lv_iconst (v := 1) hx hb dL_law_579 (by decide) ?_
  refine lv_iadd hx hb dL_law_580 ?_
  refine va_sld hx hb hX hbl hbA hw.2.2.2 j1 dL_law_581 ?_
  refine lv_aload_n hx hb dL_law_582 rfl (lv_at hl 0 rfl) ?_
  refine lv_iload_n hx hb dL_law_583 rfl (lv_at hl 3 rfl) ?_
  refine lv_iconst (v := 2) hx hb dL_law_584 (by decide) ?_
  refine lv_iadd hx hb dL_law_585 ?_
  refine va_sld hx hb hX hbl hbA hw.2.2.2 j2 dL_law_586 ?_
  refine lv_aload_n hx hb dL_law_587 rfl (lv_at hl 0 rfl) ?_
  refine lv_iload_n hx hb dL_law_588 rfl (lv_at hl 3 rfl) ?_
  refine lv_iconst (v := 3) hx hb dL_law_589 (by decide) ?_
  refine lv_iadd hx hb dL_law_590 ?_
  refine va_sld hx hb hX hbl hbA hw.2.2.2 j3 dL_law_591 ?_
  refine lv_aload_n hx hb dL_law_592 rfl (lv_at hl 0 rfl) ?_
  refine lv_iload_n hx hb dL_law_593 rfl (lv_at hl 3 rfl) ?_
  refine lv_iconst (v := 4) hx hb dL_law_594 (by decide) ?_
  refine lv_iadd hx hb dL_law_595 ?_
  refine va_sld hx hb hX hbl hbA hw.2.2.2 j4 dL_law_596 ?_
  refine lv_aload_n hx hb dL_law_597 rfl (lv_at hl 0 rfl) ?_
  refine lv_iload_n hx hb dL_law_598 rfl (lv_at hl 3 rfl) ?_
  refine lv_iconst (v := 5) hx hb dL_law_599 (by decide) ?_
  refine lv_iadd hx hb dL_law_600 ?_
  refine va_sld hx hb hX hbl hbA hw.2.2.2 j5 dL_law_601 ?_
  refine law2_i (rest := [.int (xp_O_least u s1 s2 s3 s4 s5).1]) (P := (mp_M_least v s1 s2 s3 s4 s5)) ⟨hx, hb, hml, hown, htG⟩ nestW_ok hK hN hA (mc_M_least l D a2 k3 v s1 s2 s3 s4 s5 qm) (cwV 5 htG (tb_V tb_646 tb_647 tb_648 tb_28 tb_649) rfl rfl rfl (by decide +kernel) ⟨Nat.le_of_ble_eq_true rfl, Nat.le_of_ble_eq_true rfl⟩) (ci := 8) rfl (mo_0 a2 k3 v) rfl hw rfl hl.1 rfl (Nat.le_of_ble_eq_true rfl) dL_law_602 ⟨Nat.le_of_ble_eq_true rfl, Nat.le_of_ble_eq_true rfl⟩ (fun H locs hw => ?_)
  exact lv_icmp_eq (tgt := 792) hx hb dL_law_605 (by decide) (fun _ => kk _ _ _ _ hrel hw) (fun ce => absurd heq ce)
set_option maxHeartbeats 4000000 in
set_option maxRecDepth 100000 in
theorem lw_case_8 {p : Program} {l : Launch} {e : Env} {s : State} {m : MethodId} {below : List Frame} {meth : Method} {c : Code} {D : va_G} {a a2 : Nat → Nat} {k3 : K3} {b L : Nat} {xs : Nat → Int32} (hL : L ≤ 3072) (C0 : lw_At p s m meth c b L xs) (hK : va_K D vwCl (ty3 k3) s) (hN : nw_all nestW s) (i : Nat) (x3 : Int32) (ex3 : x3 = nI i) (hi : i + 6 ≤ L) (u v : S4) (hR : Rel u v) (H : Heap) (locs : List Loc) (ls : Array Slot) (hw : wd2 D vwCl (xC a k3) (mC a2 k3) (fun q : Nat => s.heap.size ≤ q) s.heap u v H locs) (hl : lv_has ls 4 [(0, .ref b), (1, .ref (a 0)), (2, .ref (a2 0)), (3, .int x3)]) (kk : ∀ (u1 v1 : S4) (H1 : Heap) (locs1 : List Loc), Rel u1 v1 → wd2 D vwCl (xC a k3) (mC a2 k3) (fun q : Nat => s.heap.size ≤ q) s.heap u1 v1 H1 locs1 → W p l e room_1 s m #[Value.ref b] below meth c H1 locs1 54 5713 (lw_Z below #[Value.ref b] s) (F0 m 792 ls [])) : W p l e room_1 s m #[Value.ref b] below meth c H locs 54 5713 (lw_Z below #[Value.ref b] s) (F0 m 610 ls []) := by
  obtain ⟨hx, hb, hr, hml, hown, hts, hX, hbl, hlocks, hgv⟩ := id C0
  have htG := tb_hts hts
  have hown : s.vm.findClass "StreetSidesLaw" = some m.cls := hown
  have hA : ∀ q : Nat, s.heap.size ≤ q → (fun q : Nat => s.heap.size ≤ q) q := fun _ h => h
  have hbA : ¬ (fun q : Nat => s.heap.size ≤ q) b := Nat.not_le.mpr hbl
  have j1 : vp_in (x3 + 1) L := lw_in ex3 1 rfl (by omega) (by omega)
  let s1 : Int32 := xs (x3 + (1 : Int32)).toNatClampNeg
  have j2 : vp_in (x3 + 2) L := lw_in ex3 2 rfl (by omega) (by omega)
  let s2 : Int32 := xs (x3 + (2 : Int32)).toNatClampNeg
  have j3 : vp_in (x3 + 3) L := lw_in ex3 3 rfl (by omega) (by omega)
  let s3 : Int32 := xs (x3 + (3 : Int32)).toNatClampNeg
  have j4 : vp_in (x3 + 4) L := lw_in ex3 4 rfl (by omega) (by omega)
  let s4 : Int32 := xs (x3 + (4 : Int32)).toNatClampNeg
  have j5 : vp_in (x3 + 5) L := lw_in ex3 5 rfl (by omega) (by omega)
  let s5 : Int32 := xs (x3 + (5 : Int32)).toNatClampNeg
  refine lv_aload_n hx hb dL_law_610 rfl (lv_at hl 1 rfl) ?_
  refine lv_aload_n hx hb dL_law_611 rfl (lv_at hl 0 rfl) ?_
  refine lv_iload_n hx hb dL_law_612 rfl (lv_at hl 3 rfl) ?_
  refine lv_iconst (v := 1) hx hb dL_law_613 (by decide) ?_
  refine lv_iadd hx hb dL_law_614 ?_
  refine va_sld hx hb hX hbl hbA hw.2.2.2 j1 dL_law_615 ?_
  obtain ⟨qx, qm, heq, hrel⟩ := op_way hR s1
  refine law1_i (rest := []) (P := (xp_O_way u s1, u)) ⟨hx, hb, hml, hown, htG⟩ nestW_ok hK hN hA (xc_O_way l D a k3 u s1 qx) (cwV 1 htG (tb_V tb_409 tb_410 tb_411 tb_20 tb_412) rfl rfl rfl (by decide +kernel) ⟨Nat.le_of_ble_eq_true rfl, Nat.le_of_ble_eq_true rfl⟩) (ci := 7) rfl (xo_0 a k3 u) rfl hw rfl hl.1 rfl (Nat.le_of_ble_eq_true rfl) dL_law_616 ⟨Nat.le_of_ble_eq_true rfl, Nat.le_of_ble_eq_true rfl⟩ (fun H locs hw => ?_)
  refine lv_aload_n hx hb dL_law_619 rfl (lv_at hl 2 rfl) ?_
  refine lv_aload_n hx hb dL_law_620 rfl (lv_at hl 0 rfl) ?_
  refine lv_iload_n hx hb dL_law_621 rfl (lv_at hl 3 rfl) ?_
  refine lv_iconst (v := 1) hx hb dL_law_622 (by decide) ?_
  refine lv_iadd hx hb dL_law_623 ?_
  refine va_sld hx hb hX hbl hbA hw.2.2.2 j1 dL_law_624 ?_
  refine law2_i (rest := [.int (xp_O_way u s1, u).1]) (P := (mp_M_way v s1, v)) ⟨hx, hb, hml, hown, htG⟩ nestW_ok hK hN hA (mc_M_way l D a2 k3 v s1 qm) (cwV 1 htG (tb_V tb_683 tb_684 tb_685 tb_28 tb_686) rfl rfl rfl (by decide +kernel) ⟨Nat.le_of_ble_eq_true rfl, Nat.le_of_ble_eq_true rfl⟩) (ci := 8) rfl (mo_0 a2 k3 v) rfl hw rfl hl.1 rfl (Nat.le_of_ble_eq_true rfl) dL_law_625 ⟨Nat.le_of_ble_eq_true rfl, Nat.le_of_ble_eq_true rfl⟩ (fun H locs hw => ?_)
  exact lv_icmp_eq (tgt := 792) hx hb dL_law_628 (by decide) (fun _ => kk _ _ _ _ hrel hw) (fun ce => absurd heq ce)
set_option maxHeartbeats 4000000 in
set_option maxRecDepth 100000 in
theorem lw_case_9 {p : Program} {l : Launch} {e : Env} {s : State} {m : MethodId} {below : List Frame} {meth : Method} {c : Code} {D : va_G} {a a2 : Nat → Nat} {k3 : K3} {b L : Nat} {xs : Nat → Int32} (hL : L ≤ 3072) (C0 : lw_At p s m meth c b L xs) (hK : va_K D vwCl (ty3 k3) s) (hN : nw_all nestW s) (i : Nat) (x3 : Int32) (ex3 : x3 = nI i) (hi : i + 6 ≤ L) (u v : S4) (hR : Rel u v) (H : Heap) (locs : List Loc) (ls : Array Slot) (hw : wd2 D vwCl (xC a k3) (mC a2 k3) (fun q : Nat => s.heap.size ≤ q) s.heap u v H locs) (hl : lv_has ls 4 [(0, .ref b), (1, .ref (a 0)), (2, .ref (a2 0)), (3, .int x3)]) (kk : ∀ (u1 v1 : S4) (H1 : Heap) (locs1 : List Loc), Rel u1 v1 → wd2 D vwCl (xC a k3) (mC a2 k3) (fun q : Nat => s.heap.size ≤ q) s.heap u1 v1 H1 locs1 → W p l e room_1 s m #[Value.ref b] below meth c H1 locs1 54 5713 (lw_Z below #[Value.ref b] s) (F0 m 792 ls [])) : W p l e room_1 s m #[Value.ref b] below meth c H locs 54 5713 (lw_Z below #[Value.ref b] s) (F0 m 633 ls []) := by
  obtain ⟨hx, hb, hr, hml, hown, hts, hX, hbl, hlocks, hgv⟩ := id C0
  have htG := tb_hts hts
  have hown : s.vm.findClass "StreetSidesLaw" = some m.cls := hown
  have hA : ∀ q : Nat, s.heap.size ≤ q → (fun q : Nat => s.heap.size ≤ q) q := fun _ h => h
  have hbA : ¬ (fun q : Nat => s.heap.size ≤ q) b := Nat.not_le.mpr hbl
  have j1 : vp_in (x3 + 1) L := lw_in ex3 1 rfl (by omega) (by omega)
  let s1 : Int32 := xs (x3 + (1 : Int32)).toNatClampNeg
  have j2 : vp_in (x3 + 2) L := lw_in ex3 2 rfl (by omega) (by omega)
  let s2 : Int32 := xs (x3 + (2 : Int32)).toNatClampNeg
  have j3 : vp_in (x3 + 3) L := lw_in ex3 3 rfl (by omega) (by omega)
  let s3 : Int32 := xs (x3 + (3 : Int32)).toNatClampNeg
  have j4 : vp_in (x3 + 4) L := lw_in ex3 4 rfl (by omega) (by omega)
  let s4 : Int32 := xs (x3 + (4 : Int32)).toNatClampNeg
  have j5 : vp_in (x3 + 5) L := lw_in ex3 5 rfl (by omega) (by omega)
  let s5 : Int32 := xs (x3 + (5 : Int32)).toNatClampNeg
  refine lv_aload_n hx hb dL_law_633 rfl (lv_at hl 1 rfl) ?_
  refine lv_aload_n hx hb dL_law_634 rfl (lv_at hl 0 rfl) ?_
  refine lv_iload_n hx hb dL_law_635 rfl (lv_at hl 3 rfl) ?_
  refine lv_iconst (v := 1) hx hb dL_law_636 (by decide) ?_
  refine lv_iadd hx hb dL_law_637 ?_
  refine va_sld hx hb hX hbl hbA hw.2.2.2 j1 dL_law_638 ?_
  obtain ⟨qx, qm, heq, hrel⟩ := op_begun hR s1
  refine law1_i (rest := []) (P := (xp_O_begun u s1, u)) ⟨hx, hb, hml, hown, htG⟩ nestW_ok hK hN hA (xc_O_begun l D a k3 u s1 qx) (cwV 1 htG (tb_V tb_421 tb_422 tb_423 tb_20 tb_424) rfl rfl rfl (by decide +kernel) ⟨Nat.le_of_ble_eq_true rfl, Nat.le_of_ble_eq_true rfl⟩) (ci := 7) rfl (xo_0 a k3 u) rfl hw rfl hl.1 rfl (Nat.le_of_ble_eq_true rfl) dL_law_639 ⟨Nat.le_of_ble_eq_true rfl, Nat.le_of_ble_eq_true rfl⟩ (fun H locs hw => ?_)
  refine lv_aload_n hx hb dL_law_642 rfl (lv_at hl 2 rfl) ?_
  refine lv_aload_n hx hb dL_law_643 rfl (lv_at hl 0 rfl) ?_
  refine lv_iload_n hx hb dL_law_644 rfl (lv_at hl 3 rfl) ?_
  refine lv_iconst (v := 1) hx hb dL_law_645 (by decide) ?_
  refine lv_iadd hx hb dL_law_646 ?_
  refine va_sld hx hb hX hbl hbA hw.2.2.2 j1 dL_law_647 ?_
  refine law2_i (rest := [.int (xp_O_begun u s1, u).1]) (P := (mp_M_begun1 v s1, v)) ⟨hx, hb, hml, hown, htG⟩ nestW_ok hK hN hA (mc_M_begun1 l D a2 k3 v s1 qm) (cwV 1 htG (tb_V tb_687 tb_688 tb_689 tb_28 tb_690) rfl rfl rfl (by decide +kernel) ⟨Nat.le_of_ble_eq_true rfl, Nat.le_of_ble_eq_true rfl⟩) (ci := 8) rfl (mo_0 a2 k3 v) rfl hw rfl hl.1 rfl (Nat.le_of_ble_eq_true rfl) dL_law_648 ⟨Nat.le_of_ble_eq_true rfl, Nat.le_of_ble_eq_true rfl⟩ (fun H locs hw => ?_)
  exact lv_icmp_eq (tgt := 792) hx hb dL_law_651 (by decide) (fun _ => kk _ _ _ _ hrel hw) (fun ce => absurd heq ce)
set_option maxHeartbeats 4000000 in
set_option maxRecDepth 100000 in
theorem lw_case_10 {p : Program} {l : Launch} {e : Env} {s : State} {m : MethodId} {below : List Frame} {meth : Method} {c : Code} {D : va_G} {a a2 : Nat → Nat} {k3 : K3} {b L : Nat} {xs : Nat → Int32} (hL : L ≤ 3072) (C0 : lw_At p s m meth c b L xs) (hK : va_K D vwCl (ty3 k3) s) (hN : nw_all nestW s) (i : Nat) (x3 : Int32) (ex3 : x3 = nI i) (hi : i + 6 ≤ L) (u v : S4) (hR : Rel u v) (H : Heap) (locs : List Loc) (ls : Array Slot) (hw : wd2 D vwCl (xC a k3) (mC a2 k3) (fun q : Nat => s.heap.size ≤ q) s.heap u v H locs) (hl : lv_has ls 4 [(0, .ref b), (1, .ref (a 0)), (2, .ref (a2 0)), (3, .int x3)]) (kk : ∀ (u1 v1 : S4) (H1 : Heap) (locs1 : List Loc), Rel u1 v1 → wd2 D vwCl (xC a k3) (mC a2 k3) (fun q : Nat => s.heap.size ≤ q) s.heap u1 v1 H1 locs1 → W p l e room_1 s m #[Value.ref b] below meth c H1 locs1 54 5713 (lw_Z below #[Value.ref b] s) (F0 m 792 ls [])) : W p l e room_1 s m #[Value.ref b] below meth c H locs 54 5713 (lw_Z below #[Value.ref b] s) (F0 m 656 ls []) := by
  obtain ⟨hx, hb, hr, hml, hown, hts, hX, hbl, hlocks, hgv⟩ := id C0
  have htG := tb_hts hts
  have hown : s.vm.findClass "StreetSidesLaw" = some m.cls := hown
  have hA : ∀ q : Nat, s.heap.size ≤ q → (fun q : Nat => s.heap.size ≤ q) q := fun _ h => h
  have hbA : ¬ (fun q : Nat => s.heap.size ≤ q) b := Nat.not_le.mpr hbl
  have j1 : vp_in (x3 + 1) L := lw_in ex3 1 rfl (by omega) (by omega)
  let s1 : Int32 := xs (x3 + (1 : Int32)).toNatClampNeg
  have j2 : vp_in (x3 + 2) L := lw_in ex3 2 rfl (by omega) (by omega)
  let s2 : Int32 := xs (x3 + (2 : Int32)).toNatClampNeg
  have j3 : vp_in (x3 + 3) L := lw_in ex3 3 rfl (by omega) (by omega)
  let s3 : Int32 := xs (x3 + (3 : Int32)).toNatClampNeg
  have j4 : vp_in (x3 + 4) L := lw_in ex3 4 rfl (by omega) (by omega)
  let s4 : Int32 := xs (x3 + (4 : Int32)).toNatClampNeg
  have j5 : vp_in (x3 + 5) L := lw_in ex3 5 rfl (by omega) (by omega)
  let s5 : Int32 := xs (x3 + (5 : Int32)).toNatClampNeg
  refine lv_aload_n hx hb dL_law_656 rfl (lv_at hl 1 rfl) ?_
  refine lv_aload_n hx hb dL_law_657 rfl (lv_at hl 0 rfl) ?_
  refine lv_iload_n hx hb dL_law_658 rfl (lv_at hl 3 rfl) ?_
  refine lv_iconst (v := 1) hx hb dL_law_659 (by decide) ?_
  refine lv_iadd hx hb dL_law_660 ?_
  refine va_sld hx hb hX hbl hbA hw.2.2.2 j1 dL_law_661 ?_
  refine lv_aload_n hx hb dL_law_662 rfl (lv_at hl 0 rfl) ?_
  refine lv_iload_n hx hb dL_law_663 rfl (lv_at hl 3 rfl) ?_
  refine lv_iconst (v := 2) hx hb dL_law_664 (by decide) ?_
  refine lv_iadd hx hb dL_law_665 ?_
  refine va_sld hx hb hX hbl hbA hw.2.2.2 j2 dL_law_666 ?_
  obtain ⟨qx, qm, heq, hrel⟩ := op_plain hR s1 s2
  refine law1_i (rest := []) (P := (xp_O_plain u s1 s2)) ⟨hx, hb, hml, hown, htG⟩ nestW_ok hK hN hA (xc_O_plain l D a k3 u s1 s2 qx) (cwV 2 htG (tb_V tb_429 tb_430 tb_431 tb_20 tb_432) rfl rfl rfl (by decide +kernel) ⟨Nat.le_of_ble_eq_true rfl, Nat.le_of_ble_eq_true rfl⟩) (ci := 7) rfl (xo_0 a k3 u) rfl hw rfl hl.1 rfl (Nat.le_of_ble_eq_true rfl) dL_law_667 ⟨Nat.le_of_ble_eq_true rfl, Nat.le_of_ble_eq_true rfl⟩ (fun H locs hw => ?_)
  refine lv_aload_n hx hb dL_law_670 rfl (lv_at hl 2 rfl) ?_
  refine lv_aload_n hx hb dL_law_671 rfl (lv_at hl 0 rfl) ?_
  refine lv_iload_n hx hb dL_law_672 rfl (lv_at hl 3 rfl) ?_
  refine lv_iconst (v := 1) hx hb dL_law_673 (by decide) ?_
  refine lv_iadd hx hb dL_law_674 ?_
  refine va_sld hx hb hX hbl hbA hw.2.2.2 j1 dL_law_675 ?_
  refine lv_aload_n hx hb dL_law_676 rfl (lv_at hl 0 rfl) ?_
  refine lv_iload_n hx hb dL_law_677 rfl (lv_at hl 3 rfl) ?_
  refine lv_iconst (v := 2) hx hb dL_law_678 (by decide) ?_
  refine lv_iadd hx hb dL_law_679 ?_
  refine va_sld hx hb hX hbl hbA hw.2.2.2 j2 dL_law_680 ?_
  refine law2_i (rest := [.int (xp_O_plain u s1 s2).1]) (P := (mp_M_plain v s1 s2)) ⟨hx, hb, hml, hown, htG⟩ nestW_ok hK hN hA (mc_M_plain l D a2 k3 v s1 s2 qm) (cwV 2 htG (tb_V tb_691 tb_692 tb_693 tb_28 tb_694) rfl rfl rfl (by decide +kernel) ⟨Nat.le_of_ble_eq_true rfl, Nat.le_of_ble_eq_true rfl⟩) (ci := 8) rfl (mo_0 a2 k3 v) rfl hw rfl hl.1 rfl (Nat.le_of_ble_eq_true rfl) dL_law_681 ⟨Nat.le_of_ble_eq_true rfl, Nat.le_of_ble_eq_true rfl⟩ (fun H locs hw => ?_)
  exact lv_icmp_eq (tgt := 792) hx hb dL_law_684 (by decide) (fun _ => kk _ _ _ _ hrel hw) (fun ce => absurd heq ce)
set_option maxHeartbeats 4000000 in
set_option maxRecDepth 100000 in
theorem lw_case_11 {p : Program} {l : Launch} {e : Env} {s : State} {m : MethodId} {below : List Frame} {meth : Method} {c : Code} {D : va_G} {a a2 : Nat → Nat} {k3 : K3} {b L : Nat} {xs : Nat → Int32} (hL : L ≤ 3072) (C0 : lw_At p s m meth c b L xs) (hK : va_K D vwCl (ty3 k3) s) (hN : nw_all nestW s) (i : Nat) (x3 : Int32) (ex3 : x3 = nI i) (hi : i + 6 ≤ L) (u v : S4) (hR : Rel u v) (H : Heap) (locs : List Loc) (ls : Array Slot) (hw : wd2 D vwCl (xC a k3) (mC a2 k3) (fun q : Nat => s.heap.size ≤ q) s.heap u v H locs) (hl : lv_has ls 4 [(0, .ref b), (1, .ref (a 0)), (2, .ref (a2 0)), (3, .int x3)]) (kk : ∀ (u1 v1 : S4) (H1 : Heap) (locs1 : List Loc), Rel u1 v1 → wd2 D vwCl (xC a k3) (mC a2 k3) (fun q : Nat => s.heap.size ≤ q) s.heap u1 v1 H1 locs1 → W p l e room_1 s m #[Value.ref b] below meth c H1 locs1 54 5713 (lw_Z below #[Value.ref b] s) (F0 m 792 ls [])) : W p l e room_1 s m #[Value.ref b] below meth c H locs 54 5713 (lw_Z below #[Value.ref b] s) (F0 m 689 ls []) := by
  obtain ⟨hx, hb, hr, hml, hown, hts, hX, hbl, hlocks, hgv⟩ := id C0
  have htG := tb_hts hts
  have hown : s.vm.findClass "StreetSidesLaw" = some m.cls := hown
  have hA : ∀ q : Nat, s.heap.size ≤ q → (fun q : Nat => s.heap.size ≤ q) q := fun _ h => h
  have hbA : ¬ (fun q : Nat => s.heap.size ≤ q) b := Nat.not_le.mpr hbl
  have j1 : vp_in (x3 + 1) L := lw_in ex3 1 rfl (by omega) (by omega)
  let s1 : Int32 := xs (x3 + (1 : Int32)).toNatClampNeg
  have j2 : vp_in (x3 + 2) L := lw_in ex3 2 rfl (by omega) (by omega)
  let s2 : Int32 := xs (x3 + (2 : Int32)).toNatClampNeg
  have j3 : vp_in (x3 + 3) L := lw_in ex3 3 rfl (by omega) (by omega)
  let s3 : Int32 := xs (x3 + (3 : Int32)).toNatClampNeg
  have j4 : vp_in (x3 + 4) L := lw_in ex3 4 rfl (by omega) (by omega)
  let s4 : Int32 := xs (x3 + (4 : Int32)).toNatClampNeg
  have j5 : vp_in (x3 + 5) L := lw_in ex3 5 rfl (by omega) (by omega)
  let s5 : Int32 := xs (x3 + (5 : Int32)).toNatClampNeg
  refine lv_aload_n hx hb dL_law_689 rfl (lv_at hl 1 rfl) ?_
  refine lv_aload_n hx hb dL_law_690 rfl (lv_at hl 0 rfl) ?_
  refine lv_iload_n hx hb dL_law_691 rfl (lv_at hl 3 rfl) ?_
  refine lv_iconst (v := 1) hx hb dL_law_692 (by decide) ?_
  refine lv_iadd hx hb dL_law_693 ?_
  refine va_sld hx hb hX hbl hbA hw.2.2.2 j1 dL_law_694 ?_
  refine lv_aload_n hx hb dL_law_695 rfl (lv_at hl 0 rfl) ?_
  refine lv_iload_n hx hb dL_law_696 rfl (lv_at hl 3 rfl) ?_
  refine lv_iconst (v := 2) hx hb dL_law_697 (by decide) ?_
  refine lv_iadd hx hb dL_law_698 ?_
  refine va_sld hx hb hX hbl hbA hw.2.2.2 j2 dL_law_699 ?_
  obtain ⟨qx, qm, heq, hrel⟩ := op_need hR s1 s2
  refine law1_i (rest := []) (P := (xp_O_need u s1 s2)) ⟨hx, hb, hml, hown, htG⟩ nestW_ok hK hN hA (xc_O_need l D a k3 u s1 s2 qx) (cwV 2 htG (tb_V tb_442 tb_443 tb_444 tb_20 tb_445) rfl rfl rfl (by decide +kernel) ⟨Nat.le_of_ble_eq_true rfl, Nat.le_of_ble_eq_true rfl⟩) (ci := 7) rfl (xo_0 a k3 u) rfl hw rfl hl.1 rfl (Nat.le_of_ble_eq_true rfl) dL_law_700 ⟨Nat.le_of_ble_eq_true rfl, Nat.le_of_ble_eq_true rfl⟩ (fun H locs hw => ?_)
  refine lv_aload_n hx hb dL_law_703 rfl (lv_at hl 2 rfl) ?_
  refine lv_aload_n hx hb dL_law_704 rfl (lv_at hl 0 rfl) ?_
  refine lv_iload_n hx hb dL_law_705 rfl (lv_at hl 3 rfl) ?_
  refine lv_iconst (v := 1) hx hb dL_law_706 (by decide) ?_
  refine lv_iadd hx hb dL_law_707 ?_
  refine va_sld hx hb hX hbl hbA hw.2.2.2 j1 dL_law_708 ?_
  refine lv_aload_n hx hb dL_law_709 rfl (lv_at hl 0 rfl) ?_
  refine lv_iload_n hx hb dL_law_710 rfl (lv_at hl 3 rfl) ?_
  refine lv_iconst (v := 2) hx hb dL_law_711 (by decide) ?_
  refine lv_iadd hx hb dL_law_712 ?_
  refine va_sld hx hb hX hbl hbA hw.2.2.2 j2 dL_law_713 ?_
  refine law2_i (rest := [.int (xp_O_need u s1 s2).1]) (P := (mp_M_need v s1 s2)) ⟨hx, hb, hml, hown, htG⟩ nestW_ok hK hN hA (mc_M_need l D a2 k3 v s1 s2 qm) (cwV 2 htG (tb_V tb_695 tb_696 tb_697 tb_28 tb_698) rfl rfl rfl (by decide +kernel) ⟨Nat.le_of_ble_eq_true rfl, Nat.le_of_ble_eq_true rfl⟩) (ci := 8) rfl (mo_0 a2 k3 v) rfl hw rfl hl.1 rfl (Nat.le_of_ble_eq_true rfl) dL_law_714 ⟨Nat.le_of_ble_eq_true rfl, Nat.le_of_ble_eq_true rfl⟩ (fun H locs hw => ?_)
  exact lv_icmp_eq (tgt := 792) hx hb dL_law_717 (by decide) (fun _ => kk _ _ _ _ hrel hw) (fun ce => absurd heq ce)
set_option maxHeartbeats 4000000 in
set_option maxRecDepth 100000 in
theorem lw_case_12 {p : Program} {l : Launch} {e : Env} {s : State} {m : MethodId} {below : List Frame} {meth : Method} {c : Code} {D : va_G} {a a2 : Nat → Nat} {k3 : K3} {b L : Nat} {xs : Nat → Int32} (hL : L ≤ 3072) (C0 : lw_At p s m meth c b L xs) (hK : va_K D vwCl (ty3 k3) s) (hN : nw_all nestW s) (i : Nat) (x3 : Int32) (ex3 : x3 = nI i) (hi : i + 6 ≤ L) (u v : S4) (hR : Rel u v) (H : Heap) (locs : List Loc) (ls : Array Slot) (hw : wd2 D vwCl (xC a k3) (mC a2 k3) (fun q : Nat => s.heap.size ≤ q) s.heap u v H locs) (hl : lv_has ls 4 [(0, .ref b), (1, .ref (a 0)), (2, .ref (a2 0)), (3, .int x3)]) (kk : ∀ (u1 v1 : S4) (H1 : Heap) (locs1 : List Loc), Rel u1 v1 → wd2 D vwCl (xC a k3) (mC a2 k3) (fun q : Nat => s.heap.size ≤ q) s.heap u1 v1 H1 locs1 → W p l e room_1 s m #[Value.ref b] below meth c H1 locs1 54 5713 (lw_Z below #[Value.ref b] s) (F0 m 792 ls [])) : W p l e room_1 s m #[Value.ref b] below meth c H locs 54 5713 (lw_Z below #[Value.ref b] s) (F0 m 722 ls []) := by
  obtain ⟨hx, hb, hr, hml, hown, hts, hX, hbl, hlocks, hgv⟩ := id C0
  have htG := tb_hts hts
  have hown : s.vm.findClass "StreetSidesLaw" = some m.cls := hown
  have hA : ∀ q : Nat, s.heap.size ≤ q → (fun q : Nat => s.heap.size ≤ q) q := fun _ h => h
  have hbA : ¬ (fun q : Nat => s.heap.size ≤ q) b := Nat.not_le.mpr hbl
  have j1 : vp_in (x3 + 1) L := lw_in ex3 1 rfl (by omega) (by omega)
  let s1 : Int32 := xs (x3 + (1 : Int32)).toNatClampNeg
  have j2 : vp_in (x3 + 2) L := lw_in ex3 2 rfl (by omega) (by omega)
  let s2 : Int32 := xs (x3 + (2 : Int32)).toNatClampNeg
  have j3 : vp_in (x3 + 3) L := lw_in ex3 3 rfl (by omega) (by omega)
  let s3 : Int32 := xs (x3 + (3 : Int32)).toNatClampNeg
  have j4 : vp_in (x3 + 4) L := lw_in ex3 4 rfl (by omega) (by omega)
  let s4 : Int32 := xs (x3 + (4 : Int32)).toNatClampNeg
  have j5 : vp_in (x3 + 5) L := lw_in ex3 5 rfl (by omega) (by omega)
  let s5 : Int32 := xs (x3 + (5 : Int32)).toNatClampNeg
  refine lv_aload_n hx hb dL_law_722 rfl (lv_at hl 1 rfl) ?_
  refine lv_aload_n hx hb dL_law_723 rfl (lv_at hl 0 rfl) ?_
  refine lv_iload_n hx hb dL_law_724 rfl (lv_at hl 3 rfl) ?_
  refine lv_iconst (v := 1) hx hb dL_law_725 (by decide) ?_
  refine lv_iadd hx hb dL_law_726 ?_
  refine va_sld hx hb hX hbl hbA hw.2.2.2 j1 dL_law_727 ?_
  refine lv_aload_n hx hb dL_law_728 rfl (lv_at hl 0 rfl) ?_
  refine lv_iload_n hx hb dL_law_729 rfl (lv_at hl 3 rfl) ?_
  refine lv_iconst (v := 2) hx hb dL_law_730 (by decide) ?_
  refine lv_iadd hx hb dL_law_731 ?_
  refine va_sld hx hb hX hbl hbA hw.2.2.2 j2 dL_law_732 ?_
  obtain ⟨qx, qm, heq, hrel⟩ := op_joined hR s1 s2
  refine law1_i (rest := []) (P := (xp_O_joined u s1 s2, u)) ⟨hx, hb, hml, hown, htG⟩ nestW_ok hK hN hA (xc_O_joined l D a k3 u s1 s2 qx) (cwV 2 htG (tb_V tb_450 tb_451 tb_452 tb_20 tb_453) rfl rfl rfl (by decide +kernel) ⟨Nat.le_of_ble_eq_true rfl, Nat.le_of_ble_eq_true rfl⟩) (ci := 7) rfl (xo_0 a k3 u) rfl hw rfl hl.1 rfl (Nat.le_of_ble_eq_true rfl) dL_law_733 ⟨Nat.le_of_ble_eq_true rfl, Nat.le_of_ble_eq_true rfl⟩ (fun H locs hw => ?_)
  refine lv_aload_n hx hb dL_law_736 rfl (lv_at hl 2 rfl) ?_
  refine lv_aload_n hx hb dL_law_737 rfl (lv_at hl 0 rfl) ?_
  refine lv_iload_n hx hb dL_law_738 rfl (lv_at hl 3 rfl) ?_
  refine lv_iconst (v := 1) hx hb dL_law_739 (by decide) ?_
  refine lv_iadd hx hb dL_law_740 ?_
  refine va_sld hx hb hX hbl hbA hw.2.2.2 j1 dL_law_741 ?_
  refine lv_aload_n hx hb dL_law_742 rfl (lv_at hl 0 rfl) ?_
  refine lv_iload_n hx hb dL_law_743 rfl (lv_at hl 3 rfl) ?_
  refine lv_iconst (v := 2) hx hb dL_law_744 (by decide) ?_
  refine lv_iadd hx hb dL_law_745 ?_
  refine va_sld hx hb hX hbl hbA hw.2.2.2 j2 dL_law_746 ?_
  refine law2_i (rest := [.int (xp_O_joined u s1 s2, u).1]) (P := (mp_M_joined v s1 s2, v)) ⟨hx, hb, hml, hown, htG⟩ nestW_ok hK hN hA (mc_M_joined l D a2 k3 v s1 s2 qm) (cwV 2 htG (tb_V tb_699 tb_700 tb_701 tb_28 tb_702) rfl rfl rfl (by decide +kernel) ⟨Nat.le_of_ble_eq_true rfl, Nat.le_of_ble_eq_true rfl⟩) (ci := 8) rfl (mo_0 a2 k3 v) rfl hw rfl hl.1 rfl (Nat.le_of_ble_eq_true rfl) dL_law_747 ⟨Nat.le_of_ble_eq_true rfl, Nat.le_of_ble_eq_true rfl⟩ (fun H locs hw => ?_)
  exact lv_icmp_eq (tgt := 792) hx hb dL_law_750 (by decide) (fun _ => kk _ _ _ _ hrel hw) (fun ce => absurd heq ce)
set_option maxHeartbeats 4000000 in
set_option maxRecDepth 100000 in
theorem lw_case_13 {p : Program} {l : Launch} {e : Env} {s : State} {m : MethodId} {below : List Frame} {meth : Method} {c : Code} {D : va_G} {a a2 : Nat → Nat} {k3 : K3} {b L : Nat} {xs : Nat → Int32} (hL : L ≤ 3072) (C0 : lw_At p s m meth c b L xs) (hK : va_K D vwCl (ty3 k3) s) (hN : nw_all nestW s) (i : Nat) (x3 : Int32) (ex3 : x3 = nI i) (hi : i + 6 ≤ L) (u v : S4) (hR : Rel u v) (H : Heap) (locs : List Loc) (ls : Array Slot) (hw : wd2 D vwCl (xC a k3) (mC a2 k3) (fun q : Nat => s.heap.size ≤ q) s.heap u v H locs) (hl : lv_has ls 4 [(0, .ref b), (1, .ref (a 0)), (2, .ref (a2 0)), (3, .int x3)]) (kk : ∀ (u1 v1 : S4) (H1 : Heap) (locs1 : List Loc), Rel u1 v1 → wd2 D vwCl (xC a k3) (mC a2 k3) (fun q : Nat => s.heap.size ≤ q) s.heap u1 v1 H1 locs1 → W p l e room_1 s m #[Value.ref b] below meth c H1 locs1 54 5713 (lw_Z below #[Value.ref b] s) (F0 m 792 ls [])) : W p l e room_1 s m #[Value.ref b] below meth c H locs 54 5713 (lw_Z below #[Value.ref b] s) (F0 m 755 ls []) := by
  obtain ⟨hx, hb, hr, hml, hown, hts, hX, hbl, hlocks, hgv⟩ := id C0
  have htG := tb_hts hts
  have hown : s.vm.findClass "StreetSidesLaw" = some m.cls := hown
  have hA : ∀ q : Nat, s.heap.size ≤ q → (fun q : Nat => s.heap.size ≤ q) q := fun _ h => h
  have hbA : ¬ (fun q : Nat => s.heap.size ≤ q) b := Nat.not_le.mpr hbl
  have j1 : vp_in (x3 + 1) L := lw_in ex3 1 rfl (by omega) (by omega)
  let s1 : Int32 := xs (x3 + (1 : Int32)).toNatClampNeg
  have j2 : vp_in (x3 + 2) L := lw_in ex3 2 rfl (by omega) (by omega)
  let s2 : Int32 := xs (x3 + (2 : Int32)).toNatClampNeg
  have j3 : vp_in (x3 + 3) L := lw_in ex3 3 rfl (by omega) (by omega)
  let s3 : Int32 := xs (x3 + (3 : Int32)).toNatClampNeg
  have j4 : vp_in (x3 + 4) L := lw_in ex3 4 rfl (by omega) (by omega)
  let s4 : Int32 := xs (x3 + (4 : Int32)).toNatClampNeg
  have j5 : vp_in (x3 + 5) L := lw_in ex3 5 rfl (by omega) (by omega)
  let s5 : Int32 := xs (x3 + (5 : Int32)).toNatClampNeg
  refine lv_aload_n hx hb dL_law_755 rfl (lv_at hl 1 rfl) ?_
  obtain ⟨qx, qm, heq, hrel⟩ := op_pieces hR
  refine law1_i (rest := []) (P := (xp_O_pieces u)) ⟨hx, hb, hml, hown, htG⟩ nestW_ok hK hN hA (xc_O_pieces l D a k3 u qx) (cwV 0 htG (tb_V tb_463 tb_464 tb_465 tb_20 tb_466) rfl rfl rfl (by decide +kernel) ⟨Nat.le_of_ble_eq_true rfl, Nat.le_of_ble_eq_true rfl⟩) (ci := 7) rfl (xo_0 a k3 u) rfl hw rfl hl.1 rfl (Nat.le_of_ble_eq_true rfl) dL_law_756 ⟨Nat.le_of_ble_eq_true rfl, Nat.le_of_ble_eq_true rfl⟩ (fun H locs hw => ?_)
  refine lv_aload_n hx hb dL_law_759 rfl (lv_at hl 2 rfl) ?_
  refine law2_i (rest := [.int (xp_O_pieces u).1]) (P := (mp_M_pieces v)) ⟨hx, hb, hml, hown, htG⟩ nestW_ok hK hN hA (mc_M_pieces l D a2 k3 v qm) (cwV 0 htG (tb_V tb_703 tb_704 tb_705 tb_28 tb_706) rfl rfl rfl (by decide +kernel) ⟨Nat.le_of_ble_eq_true rfl, Nat.le_of_ble_eq_true rfl⟩) (ci := 8) rfl (mo_0 a2 k3 v) rfl hw rfl hl.1 rfl (Nat.le_of_ble_eq_true rfl) dL_law_760 ⟨Nat.le_of_ble_eq_true rfl, Nat.le_of_ble_eq_true rfl⟩ (fun H locs hw => ?_)
  exact lv_icmp_eq (tgt := 792) hx hb dL_law_763 (by decide) (fun _ => kk _ _ _ _ hrel hw) (fun ce => absurd heq ce)
set_option maxHeartbeats 4000000 in
set_option maxRecDepth 100000 in
theorem lw_case_14 {p : Program} {l : Launch} {e : Env} {s : State} {m : MethodId} {below : List Frame} {meth : Method} {c : Code} {D : va_G} {a a2 : Nat → Nat} {k3 : K3} {b L : Nat} {xs : Nat → Int32} (hL : L ≤ 3072) (C0 : lw_At p s m meth c b L xs) (hK : va_K D vwCl (ty3 k3) s) (hN : nw_all nestW s) (i : Nat) (x3 : Int32) (ex3 : x3 = nI i) (hi : i + 6 ≤ L) (u v : S4) (hR : Rel u v) (H : Heap) (locs : List Loc) (ls : Array Slot) (hw : wd2 D vwCl (xC a k3) (mC a2 k3) (fun q : Nat => s.heap.size ≤ q) s.heap u v H locs) (hl : lv_has ls 4 [(0, .ref b), (1, .ref (a 0)), (2, .ref (a2 0)), (3, .int x3)]) (kk : ∀ (u1 v1 : S4) (H1 : Heap) (locs1 : List Loc), Rel u1 v1 → wd2 D vwCl (xC a k3) (mC a2 k3) (fun q : Nat => s.heap.size ≤ q) s.heap u1 v1 H1 locs1 → W p l e room_1 s m #[Value.ref b] below meth c H1 locs1 54 5713 (lw_Z below #[Value.ref b] s) (F0 m 792 ls [])) : W p l e room_1 s m #[Value.ref b] below meth c H locs 54 5713 (lw_Z below #[Value.ref b] s) (F0 m 768 ls []) := by
  obtain ⟨hx, hb, hr, hml, hown, hts, hX, hbl, hlocks, hgv⟩ := id C0
  have htG := tb_hts hts
  have hown : s.vm.findClass "StreetSidesLaw" = some m.cls := hown
  have hA : ∀ q : Nat, s.heap.size ≤ q → (fun q : Nat => s.heap.size ≤ q) q := fun _ h => h
  have hbA : ¬ (fun q : Nat => s.heap.size ≤ q) b := Nat.not_le.mpr hbl
  have j1 : vp_in (x3 + 1) L := lw_in ex3 1 rfl (by omega) (by omega)
  let s1 : Int32 := xs (x3 + (1 : Int32)).toNatClampNeg
  have j2 : vp_in (x3 + 2) L := lw_in ex3 2 rfl (by omega) (by omega)
  let s2 : Int32 := xs (x3 + (2 : Int32)).toNatClampNeg
  have j3 : vp_in (x3 + 3) L := lw_in ex3 3 rfl (by omega) (by omega)
  let s3 : Int32 := xs (x3 + (3 : Int32)).toNatClampNeg
  have j4 : vp_in (x3 + 4) L := lw_in ex3 4 rfl (by omega) (by omega)
  let s4 : Int32 := xs (x3 + (4 : Int32)).toNatClampNeg
  have j5 : vp_in (x3 + 5) L := lw_in ex3 5 rfl (by omega) (by omega)
  let s5 : Int32 := xs (x3 + (5 : Int32)).toNatClampNeg
  refine lv_aload_n hx hb dL_law_768 rfl (lv_at hl 1 rfl) ?_
  refine lv_aload_n hx hb dL_law_769 rfl (lv_at hl 0 rfl) ?_
  refine lv_iload_n hx hb dL_law_770 rfl (lv_at hl 3 rfl) ?_
  refine lv_iconst (v := 1) hx hb dL_law_771 (by decide) ?_
  refine lv_iadd hx hb dL_law_772 ?_
  refine va_sld hx hb hX hbl hbA hw.2.2.2 j1 dL_law_773 ?_
  obtain ⟨qx, qm, heq, hrel⟩ := op_span hR s1
  refine law1_l (rest := []) (P := (xp_O_span u s1, u)) ⟨hx, hb, hml, hown, htG⟩ nestW_ok hK hN hA (xc_O_span l D a k3 u s1 qx) (cwV 1 htG (tb_V tb_495 tb_496 tb_497 tb_20 tb_498) rfl rfl rfl (by decide +kernel) ⟨Nat.le_of_ble_eq_true rfl, Nat.le_of_ble_eq_true rfl⟩) (ci := 7) rfl (xo_0 a k3 u) rfl hw rfl hl.1 rfl (Nat.le_of_ble_eq_true rfl) dL_law_774 ⟨Nat.le_of_ble_eq_true rfl, Nat.le_of_ble_eq_true rfl⟩ (fun H locs hw => ?_)
  refine lv_aload_n hx hb dL_law_777 rfl (lv_at hl 2 rfl) ?_
  refine lv_aload_n hx hb dL_law_778 rfl (lv_at hl 0 rfl) ?_
  refine lv_iload_n hx hb dL_law_779 rfl (lv_at hl 3 rfl) ?_
  refine lv_iconst (v := 1) hx hb dL_law_780 (by decide) ?_
  refine lv_iadd hx hb dL_law_781 ?_
  refine va_sld hx hb hX hbl hbA hw.2.2.2 j1 dL_law_782 ?_
  refine law2_l (rest := [.long (xp_O_span u s1, u).1]) (P := (mp_M_span v s1, v)) ⟨hx, hb, hml, hown, htG⟩ nestW_ok hK hN hA (mc_M_span l D a2 k3 v s1 qm) (cwV 1 htG (tb_V tb_707 tb_708 tb_709 tb_28 tb_710) rfl rfl rfl (by decide +kernel) ⟨Nat.le_of_ble_eq_true rfl, Nat.le_of_ble_eq_true rfl⟩) (ci := 8) rfl (mo_0 a2 k3 v) rfl hw rfl hl.1 rfl (Nat.le_of_ble_eq_true rfl) dL_law_783 ⟨Nat.le_of_ble_eq_true rfl, Nat.le_of_ble_eq_true rfl⟩ (fun H locs hw => ?_)
  refine W.lcmp hx hb dL_law_786 ?_
  exact lv_if_eq (tgt := 792) hx hb dL_law_787 (by decide) (fun _ => kk _ _ _ _ hrel hw) (fun ce => absurd (lw_cmp0 heq) ce)
theorem lw_more {i L : Nat} (hL : L ≤ 3072) (hi : i ≤ L) (h : ¬ (Int32.ofNat L - 6 < nI i)) : i + 6 ≤ L := by
  have e1 : (Int32.ofNat L - 6).toInt = (L : Int) - 6 := by
    have h1 : (nI L - nI 6).toInt = (L : Int) - (6 : Nat) := pk_sub_toInt (by omega) (by decide)
    exact h1
  have e2 : (nI i).toInt = (i : Int) := nI_toInt (by omega)
  rw [Int32.lt_iff_toInt_lt, e1, e2] at h
  omega
set_option maxHeartbeats 4000000 in
set_option maxRecDepth 100000 in
theorem law_loop {p : Program} {l : Launch} {e : Env} {s : State} {m : MethodId} {below : List Frame} {meth : Method} {c : Code} {D : va_G} {a a2 : Nat → Nat} {k3 : K3} {b L : Nat} {xs : Nat → Int32} (hL : L ≤ 3072) (C0 : lw_At p s m meth c b L xs) (hK : va_K D vwCl (ty3 k3) s) (hN : nw_all nestW s) : ∀ (n i : Nat) (x3 : Int32), i ≤ L + 5 → L + 6 ≤ i + n → x3 = nI i → ∀ (u v : S4) (H : Heap) (locs : List Loc) (ls : Array Slot), Rel u v → wd2 D vwCl (xC a k3) (mC a2 k3) (fun q : Nat => s.heap.size ≤ q) s.heap u v H locs → lv_has ls 4 [(0, .ref b), (1, .ref (a 0)), (2, .ref (a2 0)), (3, .int x3)] → W p l e room_1 s m #[Value.ref b] below meth c H locs 54 5713 (lw_Z below #[Value.ref b] s) (F0 m 18 ls []) := by
  obtain ⟨hx, hb, hr, hml, hown, hts, hX, hbl, hlocks, hgv⟩ := id C0
  have hbA : ¬ (fun q : Nat => s.heap.size ≤ q) b := Nat.not_le.mpr hbl
  intro n
  induction n with
  | zero =>
    intro i x3 h1 h2
    exact absurd h2 (by omega)
  | succ n ih =>
    intro i x3 hi hn ex3 u v H locs ls hR hw hl
    refine lv_iload_n hx hb dL_law_18 rfl (lv_at hl 3 rfl) ?_
    refine lv_aload_n hx hb dL_law_19 rfl (lv_at hl 0 rfl) ?_
    refine va_slen hx hb hX hbl hbA hw.2.2.2 dL_law_20 ?_
    refine lv_bipush (v := 6) hx hb dL_law_21 (by decide) ?_
    refine lv_isub hx hb dL_law_23 ?_
    refine lv_icmp_gt (tgt := 798) hx hb dL_law_24 (by decide) (fun cg => ?_) (fun cg => ?_)
    · refine lv_iconst (v := 1) hx hb dL_law_798 (by decide) ?_
      refine va_forget (fun q hq => hw.2.2.2.2.2 q hq) ?_
      exact lw_ret hx hb hr hlocks dL_law_799
    · have hile : i ≤ L := lw_le hL hi (by rw [← ex3]; exact cg)
      have hlt : i + 6 ≤ L := lw_more hL hile (by rw [← ex3]; exact cg)
      have j0 : vp_in x3 L := by rw [ex3]; exact vp_in_nI (by omega) (by omega)
      refine lv_aload_n hx hb dL_law_27 rfl (lv_at hl 0 rfl) ?_
      refine lv_iload_n hx hb dL_law_28 rfl (lv_at hl 3 rfl) ?_
      refine va_sld hx hb hX hbl hbA hw.2.2.2 j0 dL_law_29 ?_
      refine lv_bipush (v := 15) hx hb dL_law_30 (by decide) ?_
      refine lv_iand hx hb dL_law_32 ?_
      have kk : ∀ (u1 v1 : S4) (H1 : Heap) (locs1 : List Loc), Rel u1 v1 → wd2 D vwCl (xC a k3) (mC a2 k3) (fun q : Nat => s.heap.size ≤ q) s.heap u1 v1 H1 locs1 → W p l e room_1 s m #[Value.ref b] below meth c H1 locs1 54 5713 (lw_Z below #[Value.ref b] s) (F0 m 792 ls []) := by
        intro u1 v1 H1 locs1 hR1 hw1
        obtain ⟨x6, ex6⟩ : ∃ z : Int32, z = x3 + 6 := ⟨_, rfl⟩
        refine lv_iinc (v := x6) (lv' := [(3, .int x6), (0, .ref b), (1, .ref (a 0)), (2, .ref (a2 0))]) hx hb dL_law_792 hl (k := 3) rfl (by rw [ex6]; rfl) (by decide) rfl (fun ls hl => ?_)
        refine lv_goto (tgt := 18) hx hb dL_law_795 (by decide) ?_
        exact ih (i + 6) x6 (by omega) (by omega) (by rw [ex6, ex3]; exact nI_add i 6) u1 v1 H1 locs1 ls hR1 hw1 (lv_sub hl [1, 2, 3, 0] rfl)
      obtain ⟨j, hj, ej⟩ := pk_andE (xs x3.toNatClampNeg) (m := 15) 4 (by decide)
      rw [ej]
      have hj : j < 16 := hj
      have hcase : j = 0 ∨ j = 1 ∨ j = 2 ∨ j = 3 ∨ j = 4 ∨ j = 5 ∨ j = 6 ∨ j = 7 ∨ j = 8 ∨ j = 9 ∨ j = 10 ∨ j = 11 ∨ j = 12 ∨ j = 13 ∨ j = 14 ∨ j = 15 := by omega
      rcases hcase with rfl | rfl | rfl | rfl | rfl | rfl | rfl | rfl | rfl | rfl | rfl | rfl | rfl | rfl | rfl | rfl
      · exact lv_tableIn (off := 75) (tgt := 108) hx hb dL_law_33 (by decide) (by decide) (by decide) (by decide) (lw_case_0 hL C0 hK hN i x3 ex3 hlt u v hR H locs ls hw hl kk)
      · exact lv_tableIn (off := 168) (tgt := 201) hx hb dL_law_33 (by decide) (by decide) (by decide) (by decide) (lw_case_1 hL C0 hK hN i x3 ex3 hlt u v hR H locs ls hw hl kk)
      · exact lv_tableIn (off := 221) (tgt := 254) hx hb dL_law_33 (by decide) (by decide) (by decide) (by decide) (lw_case_2 hL C0 hK hN i x3 ex3 hlt u v hR H locs ls hw hl kk)
      · exact lv_tableIn (off := 290) (tgt := 323) hx hb dL_law_33 (by decide) (by decide) (by decide) (by decide) (lw_case_3 hL C0 hK hN i x3 ex3 hlt u v hR H locs ls hw hl kk)
      · exact lv_tableIn (off := 333) (tgt := 366) hx hb dL_law_33 (by decide) (by decide) (by decide) (by decide) (lw_case_4 hL C0 hK hN i x3 ex3 hlt u v hR H locs ls hw hl kk)
      · exact lv_tableIn (off := 406) (tgt := 439) hx hb dL_law_33 (by decide) (by decide) (by decide) (by decide) (lw_case_5 hL C0 hK hN i x3 ex3 hlt u v hR H locs ls hw hl kk)
      · exact lv_tableIn (off := 455) (tgt := 488) hx hb dL_law_33 (by decide) (by decide) (by decide) (by decide) (lw_case_6 hL C0 hK hN i x3 ex3 hlt u v hR H locs ls hw hl kk)
      · exact lv_tableIn (off := 514) (tgt := 547) hx hb dL_law_33 (by decide) (by decide) (by decide) (by decide) (lw_case_7 hL C0 hK hN i x3 ex3 hlt u v hR H locs ls hw hl kk)
      · exact lv_tableIn (off := 577) (tgt := 610) hx hb dL_law_33 (by decide) (by decide) (by decide) (by decide) (lw_case_8 hL C0 hK hN i x3 ex3 hlt u v hR H locs ls hw hl kk)
      · exact lv_tableIn (off := 600) (tgt := 633) hx hb dL_law_33 (by decide) (by decide) (by decide) (by decide) (lw_case_9 hL C0 hK hN i x3 ex3 hlt u v hR H locs ls hw hl kk)
      · exact lv_tableIn (off := 623) (tgt := 656) hx hb dL_law_33 (by decide) (by decide) (by decide) (by decide) (lw_case_10 hL C0 hK hN i x3 ex3 hlt u v hR H locs ls hw hl kk)
      · exact lv_tableIn (off := 656) (tgt := 689) hx hb dL_law_33 (by decide) (by decide) (by decide) (by decide) (lw_case_11 hL C0 hK hN i x3 ex3 hlt u v hR H locs ls hw hl kk)
      · exact lv_tableIn (off := 689) (tgt := 722) hx hb dL_law_33 (by decide) (by decide) (by decide) (by decide) (lw_case_12 hL C0 hK hN i x3 ex3 hlt u v hR H locs ls hw hl kk)
      · exact lv_tableIn (off := 722) (tgt := 755) hx hb dL_law_33 (by decide) (by decide) (by decide) (by decide) (lw_case_13 hL C0 hK hN i x3 ex3 hlt u v hR H locs ls hw hl kk)
      · exact lv_tableIn (off := 735) (tgt := 768) hx hb dL_law_33 (by decide) (by decide) (by decide) (by decide) (lw_case_14 hL C0 hK hN i x3 ex3 hlt u v hR H locs ls hw hl kk)
      · exact lv_tableOut (tgt := 792) hx hb dL_law_33 (by decide) (by decide) (kk u v H locs hR hw)
