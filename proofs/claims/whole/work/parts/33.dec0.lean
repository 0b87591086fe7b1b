/-! the law's decode rows -/
theorem dl_0 : decode code 0 = .ok (.new 7, 3) := by decide +kernel
theorem dl_3 : decode code 3 = .ok (.dup, 1) := by decide +kernel
theorem dl_4 : decode code 4 = .ok (.invokespecial 9, 3) := by decide +kernel
theorem dl_7 : decode code 7 = .ok (.astore_n 1, 1) := by decide +kernel
theorem dl_8 : decode code 8 = .ok (.new 10, 3) := by decide +kernel
theorem dl_11 : decode code 11 = .ok (.dup, 1) := by decide +kernel
theorem dl_12 : decode code 12 = .ok (.invokespecial 12, 3) := by decide +kernel
theorem dl_15 : decode code 15 = .ok (.astore_n 2, 1) := by decide +kernel
theorem dl_16 : decode code 16 = .ok (.iconst 0, 1) := by decide +kernel
theorem dl_17 : decode code 17 = .ok (.istore_n 3, 1) := by decide +kernel
theorem dl_18 : decode code 18 = .ok (.iload_n 3, 1) := by decide +kernel
theorem dl_19 : decode code 19 = .ok (.aload_n 0, 1) := by decide +kernel
theorem dl_20 : decode code 20 = .ok (.arraylength, 1) := by decide +kernel
theorem dl_21 : decode code 21 = .ok (.iconst 4, 1) := by decide +kernel
theorem dl_22 : decode code 22 = .ok (.isub, 1) := by decide +kernel
theorem dl_23 : decode code 23 = .ok (.if_icmp .gt 1087, 3) := by decide +kernel
theorem dl_26 : decode code 26 = .ok (.aload_n 0, 1) := by decide +kernel
theorem dl_27 : decode code 27 = .ok (.iload_n 3, 1) := by decide +kernel
theorem dl_28 : decode code 28 = .ok (.iaload, 1) := by decide +kernel
theorem dl_29 : decode code 29 = .ok (.bipush 63, 2) := by decide +kernel
theorem dl_31 : decode code 31 = .ok (.iand, 1) := by decide +kernel
theorem dl_32 : decode code 32 = .ok (.tableswitch 1072 0 34 #[156, 179, 192, 205, 218, 251, 284, 317, 330, 363, 386, 409, 432, 445, 468, 491, 524, 547, 560, 583, 606, 639, 682, 725, 768, 791, 834, 847, 870, 913, 926, 949, 972, 1006, 1049], 156) := by decide +kernel
theorem dl_188 : decode code 188 = .ok (.aload_n 1, 1) := by decide +kernel
theorem dl_189 : decode code 189 = .ok (.aload_n 0, 1) := by decide +kernel
theorem dl_190 : decode code 190 = .ok (.iload_n 3, 1) := by decide +kernel
theorem dl_191 : decode code 191 = .ok (.iconst 1, 1) := by decide +kernel
theorem dl_192 : decode code 192 = .ok (.iadd, 1) := by decide +kernel
theorem dl_193 : decode code 193 = .ok (.iaload, 1) := by decide +kernel
theorem dl_194 : decode code 194 = .ok (.invokevirtual 13, 3) := by decide +kernel
theorem dl_197 : decode code 197 = .ok (.aload_n 2, 1) := by decide +kernel
theorem dl_198 : decode code 198 = .ok (.aload_n 0, 1) := by decide +kernel
theorem dl_199 : decode code 199 = .ok (.iload_n 3, 1) := by decide +kernel
theorem dl_200 : decode code 200 = .ok (.iconst 1, 1) := by decide +kernel
theorem dl_201 : decode code 201 = .ok (.iadd, 1) := by decide +kernel
theorem dl_202 : decode code 202 = .ok (.iaload, 1) := by decide +kernel
theorem dl_203 : decode code 203 = .ok (.invokevirtual 17, 3) := by decide +kernel
theorem dl_206 : decode code 206 = .ok (.if_icmp .eq 898, 3) := by decide +kernel
theorem dl_211 : decode code 211 = .ok (.aload_n 1, 1) := by decide +kernel
theorem dl_212 : decode code 212 = .ok (.invokevirtual 18, 3) := by decide +kernel
theorem dl_215 : decode code 215 = .ok (.aload_n 2, 1) := by decide +kernel
theorem dl_216 : decode code 216 = .ok (.invokevirtual 22, 3) := by decide +kernel
theorem dl_219 : decode code 219 = .ok (.if_icmp .eq 885, 3) := by decide +kernel
theorem dl_224 : decode code 224 = .ok (.aload_n 1, 1) := by decide +kernel
theorem dl_225 : decode code 225 = .ok (.invokevirtual 23, 3) := by decide +kernel
theorem dl_228 : decode code 228 = .ok (.aload_n 2, 1) := by decide +kernel
theorem dl_229 : decode code 229 = .ok (.invokevirtual 26, 3) := by decide +kernel
theorem dl_232 : decode code 232 = .ok (.if_icmp .eq 872, 3) := by decide +kernel
theorem dl_237 : decode code 237 = .ok (.aload_n 1, 1) := by decide +kernel
theorem dl_238 : decode code 238 = .ok (.invokevirtual 27, 3) := by decide +kernel
theorem dl_241 : decode code 241 = .ok (.aload_n 2, 1) := by decide +kernel
theorem dl_242 : decode code 242 = .ok (.invokevirtual 30, 3) := by decide +kernel
theorem dl_245 : decode code 245 = .ok (.if_icmp .eq 859, 3) := by decide +kernel
theorem dl_250 : decode code 250 = .ok (.aload_n 1, 1) := by decide +kernel
theorem dl_251 : decode code 251 = .ok (.aload_n 0, 1) := by decide +kernel
theorem dl_252 : decode code 252 = .ok (.iload_n 3, 1) := by decide +kernel
theorem dl_253 : decode code 253 = .ok (.iconst 1, 1) := by decide +kernel
theorem dl_254 : decode code 254 = .ok (.iadd, 1) := by decide +kernel
theorem dl_255 : decode code 255 = .ok (.iaload, 1) := by decide +kernel
theorem dl_256 : decode code 256 = .ok (.aload_n 0, 1) := by decide +kernel
theorem dl_257 : decode code 257 = .ok (.iload_n 3, 1) := by decide +kernel
theorem dl_258 : decode code 258 = .ok (.iconst 2, 1) := by decide +kernel
theorem dl_259 : decode code 259 = .ok (.iadd, 1) := by decide +kernel
theorem dl_260 : decode code 260 = .ok (.iaload, 1) := by decide +kernel
theorem dl_261 : decode code 261 = .ok (.invokevirtual 31, 3) := by decide +kernel
theorem dl_264 : decode code 264 = .ok (.aload_n 2, 1) := by decide +kernel
theorem dl_265 : decode code 265 = .ok (.aload_n 0, 1) := by decide +kernel
theorem dl_266 : decode code 266 = .ok (.iload_n 3, 1) := by decide +kernel
theorem dl_267 : decode code 267 = .ok (.iconst 1, 1) := by decide +kernel
theorem dl_268 : decode code 268 = .ok (.iadd, 1) := by decide +kernel
theorem dl_269 : decode code 269 = .ok (.iaload, 1) := by decide +kernel
theorem dl_270 : decode code 270 = .ok (.aload_n 0, 1) := by decide +kernel
theorem dl_271 : decode code 271 = .ok (.iload_n 3, 1) := by decide +kernel
theorem dl_272 : decode code 272 = .ok (.iconst 2, 1) := by decide +kernel
theorem dl_273 : decode code 273 = .ok (.iadd, 1) := by decide +kernel
theorem dl_274 : decode code 274 = .ok (.iaload, 1) := by decide +kernel
theorem dl_275 : decode code 275 = .ok (.invokevirtual 35, 3) := by decide +kernel
theorem dl_278 : decode code 278 = .ok (.if_icmp .eq 826, 3) := by decide +kernel
theorem dl_283 : decode code 283 = .ok (.aload_n 1, 1) := by decide +kernel
theorem dl_284 : decode code 284 = .ok (.aload_n 0, 1) := by decide +kernel
theorem dl_285 : decode code 285 = .ok (.iload_n 3, 1) := by decide +kernel
theorem dl_286 : decode code 286 = .ok (.iconst 1, 1) := by decide +kernel
theorem dl_287 : decode code 287 = .ok (.iadd, 1) := by decide +kernel
theorem dl_288 : decode code 288 = .ok (.iaload, 1) := by decide +kernel
theorem dl_289 : decode code 289 = .ok (.aload_n 0, 1) := by decide +kernel
theorem dl_290 : decode code 290 = .ok (.iload_n 3, 1) := by decide +kernel
theorem dl_291 : decode code 291 = .ok (.iconst 2, 1) := by decide +kernel
theorem dl_292 : decode code 292 = .ok (.iadd, 1) := by decide +kernel
theorem dl_293 : decode code 293 = .ok (.iaload, 1) := by decide +kernel
theorem dl_294 : decode code 294 = .ok (.invokevirtual 36, 3) := by decide +kernel
theorem dl_297 : decode code 297 = .ok (.aload_n 2, 1) := by decide +kernel
theorem dl_298 : decode code 298 = .ok (.aload_n 0, 1) := by decide +kernel
theorem dl_299 : decode code 299 = .ok (.iload_n 3, 1) := by decide +kernel
theorem dl_300 : decode code 300 = .ok (.iconst 1, 1) := by decide +kernel
theorem dl_301 : decode code 301 = .ok (.iadd, 1) := by decide +kernel
theorem dl_302 : decode code 302 = .ok (.iaload, 1) := by decide +kernel
theorem dl_303 : decode code 303 = .ok (.aload_n 0, 1) := by decide +kernel
theorem dl_304 : decode code 304 = .ok (.iload_n 3, 1) := by decide +kernel
theorem dl_305 : decode code 305 = .ok (.iconst 2, 1) := by decide +kernel
theorem dl_306 : decode code 306 = .ok (.iadd, 1) := by decide +kernel
theorem dl_307 : decode code 307 = .ok (.iaload, 1) := by decide +kernel
theorem dl_308 : decode code 308 = .ok (.invokevirtual 39, 3) := by decide +kernel
theorem dl_311 : decode code 311 = .ok (.if_icmp .eq 793, 3) := by decide +kernel
theorem dl_316 : decode code 316 = .ok (.aload_n 1, 1) := by decide +kernel
theorem dl_317 : decode code 317 = .ok (.aload_n 0, 1) := by decide +kernel
theorem dl_318 : decode code 318 = .ok (.iload_n 3, 1) := by decide +kernel
theorem dl_319 : decode code 319 = .ok (.iconst 1, 1) := by decide +kernel
theorem dl_320 : decode code 320 = .ok (.iadd, 1) := by decide +kernel
theorem dl_321 : decode code 321 = .ok (.iaload, 1) := by decide +kernel
theorem dl_322 : decode code 322 = .ok (.aload_n 0, 1) := by decide +kernel
theorem dl_323 : decode code 323 = .ok (.iload_n 3, 1) := by decide +kernel
