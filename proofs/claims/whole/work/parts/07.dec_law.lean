set_option maxRecDepth 20000 in
theorem dL_law_0 : decode cL_law 0 = .ok (.new 7, 3) ∧ 0 + 3 = 3 := ⟨by decide +kernel, rfl⟩
set_option maxRecDepth 20000 in
theorem dL_law_3 : decode cL_law 3 = .ok (.dup, 1) ∧ 3 + 1 = 4 := ⟨by decide +kernel, rfl⟩
set_option maxRecDepth 20000 in
theorem dL_law_4 : decode cL_law 4 = .ok (.invokespecial 9, 3) ∧ 4 + 3 = 7 := ⟨by decide +kernel, rfl⟩
set_option maxRecDepth 20000 in
theorem dL_law_7 : decode cL_law 7 = .ok (.astore_n 1, 1) ∧ 7 + 1 = 8 := ⟨by decide +kernel, rfl⟩
set_option maxRecDepth 20000 in
theorem dL_law_8 : decode cL_law 8 = .ok (.new 10, 3) ∧ 8 + 3 = 11 := ⟨by decide +kernel, rfl⟩
set_option maxRecDepth 20000 in
theorem dL_law_11 : decode cL_law 11 = .ok (.dup, 1) ∧ 11 + 1 = 12 := ⟨by decide +kernel, rfl⟩
set_option maxRecDepth 20000 in
theorem dL_law_12 : decode cL_law 12 = .ok (.invokespecial 12, 3) ∧ 12 + 3 = 15 := ⟨by decide +kernel, rfl⟩
set_option maxRecDepth 20000 in
theorem dL_law_15 : decode cL_law 15 = .ok (.astore_n 2, 1) ∧ 15 + 1 = 16 := ⟨by decide +kernel, rfl⟩
set_option maxRecDepth 20000 in
theorem dL_law_16 : decode cL_law 16 = .ok (.iconst 0, 1) ∧ 16 + 1 = 17 := ⟨by decide +kernel, rfl⟩
set_option maxRecDepth 20000 in
theorem dL_law_17 : decode cL_law 17 = .ok (.istore_n 3, 1) ∧ 17 + 1 = 18 := ⟨by decide +kernel, rfl⟩
set_option maxRecDepth 20000 in
theorem dL_law_18 : decode cL_law 18 = .ok (.iload_n 3, 1) ∧ 18 + 1 = 19 := ⟨by decide +kernel, rfl⟩
set_option maxRecDepth 20000 in
theorem dL_law_19 : decode cL_law 19 = .ok (.aload_n 0, 1) ∧ 19 + 1 = 20 := ⟨by decide +kernel, rfl⟩
set_option maxRecDepth 20000 in
theorem dL_law_20 : decode cL_law 20 = .ok (.arraylength, 1) ∧ 20 + 1 = 21 := ⟨by decide +kernel, rfl⟩
set_option maxRecDepth 20000 in
theorem dL_law_21 : decode cL_law 21 = .ok (.bipush 6, 2) ∧ 21 + 2 = 23 := ⟨by decide +kernel, rfl⟩
set_option maxRecDepth 20000 in
theorem dL_law_23 : decode cL_law 23 = .ok (.isub, 1) ∧ 23 + 1 = 24 := ⟨by decide +kernel, rfl⟩
set_option maxRecDepth 20000 in
theorem dL_law_24 : decode cL_law 24 = .ok (.if_icmp .gt 1468, 3) ∧ 24 + 3 = 27 ∧ ((24 : Nat) : Int) + (1468) = ((1492 : Nat) : Int) := ⟨by decide +kernel, rfl, by decide⟩
set_option maxRecDepth 20000 in
theorem dL_law_27 : decode cL_law 27 = .ok (.aload_n 0, 1) ∧ 27 + 1 = 28 := ⟨by decide +kernel, rfl⟩
set_option maxRecDepth 20000 in
theorem dL_law_28 : decode cL_law 28 = .ok (.iload_n 3, 1) ∧ 28 + 1 = 29 := ⟨by decide +kernel, rfl⟩
set_option maxRecDepth 20000 in
theorem dL_law_29 : decode cL_law 29 = .ok (.iaload, 1) ∧ 29 + 1 = 30 := ⟨by decide +kernel, rfl⟩
set_option maxRecDepth 20000 in
theorem dL_law_30 : decode cL_law 30 = .ok (.bipush 63, 2) ∧ 30 + 2 = 32 := ⟨by decide +kernel, rfl⟩
set_option maxRecDepth 20000 in
theorem dL_law_32 : decode cL_law 32 = .ok (.iand, 1) ∧ 32 + 1 = 33 := ⟨by decide +kernel, rfl⟩
set_option maxRecDepth 20000 in
theorem dL_law_33 : decode cL_law 33 = .ok (.tableswitch 1453 0 42 #[187, 250, 293, 326, 359, 372, 405, 428, 461, 524, 547, 560, 573, 586, 599, 622, 665, 698, 722, 746, 780, 823, 856, 880, 903, 946, 979, 1012, 1036, 1049, 1092, 1115, 1148, 1191, 1225, 1248, 1292, 1315, 1338, 1371, 1394, 1417, 1440], 187) := by decide +kernel
set_option maxRecDepth 20000 in
theorem dL_law_220 : decode cL_law 220 = .ok (.aload_n 1, 1) ∧ 220 + 1 = 221 := ⟨by decide +kernel, rfl⟩
set_option maxRecDepth 20000 in
theorem dL_law_221 : decode cL_law 221 = .ok (.aload_n 0, 1) ∧ 221 + 1 = 222 := ⟨by decide +kernel, rfl⟩
set_option maxRecDepth 20000 in
theorem dL_law_222 : decode cL_law 222 = .ok (.iload_n 3, 1) ∧ 222 + 1 = 223 := ⟨by decide +kernel, rfl⟩
set_option maxRecDepth 20000 in
theorem dL_law_223 : decode cL_law 223 = .ok (.iconst 1, 1) ∧ 223 + 1 = 224 := ⟨by decide +kernel, rfl⟩
set_option maxRecDepth 20000 in
theorem dL_law_224 : decode cL_law 224 = .ok (.iadd, 1) ∧ 224 + 1 = 225 := ⟨by decide +kernel, rfl⟩
set_option maxRecDepth 20000 in
theorem dL_law_225 : decode cL_law 225 = .ok (.iaload, 1) ∧ 225 + 1 = 226 := ⟨by decide +kernel, rfl⟩
set_option maxRecDepth 20000 in
theorem dL_law_226 : decode cL_law 226 = .ok (.aload_n 0, 1) ∧ 226 + 1 = 227 := ⟨by decide +kernel, rfl⟩
set_option maxRecDepth 20000 in
theorem dL_law_227 : decode cL_law 227 = .ok (.iload_n 3, 1) ∧ 227 + 1 = 228 := ⟨by decide +kernel, rfl⟩
set_option maxRecDepth 20000 in
theorem dL_law_228 : decode cL_law 228 = .ok (.iconst 2, 1) ∧ 228 + 1 = 229 := ⟨by decide +kernel, rfl⟩
set_option maxRecDepth 20000 in
theorem dL_law_229 : decode cL_law 229 = .ok (.iadd, 1) ∧ 229 + 1 = 230 := ⟨by decide +kernel, rfl⟩
set_option maxRecDepth 20000 in
theorem dL_law_230 : decode cL_law 230 = .ok (.iaload, 1) ∧ 230 + 1 = 231 := ⟨by decide +kernel, rfl⟩
set_option maxRecDepth 20000 in
theorem dL_law_231 : decode cL_law 231 = .ok (.aload_n 0, 1) ∧ 231 + 1 = 232 := ⟨by decide +kernel, rfl⟩
set_option maxRecDepth 20000 in
theorem dL_law_232 : decode cL_law 232 = .ok (.iload_n 3, 1) ∧ 232 + 1 = 233 := ⟨by decide +kernel, rfl⟩
set_option maxRecDepth 20000 in
theorem dL_law_233 : decode cL_law 233 = .ok (.iconst 3, 1) ∧ 233 + 1 = 234 := ⟨by decide +kernel, rfl⟩
set_option maxRecDepth 20000 in
theorem dL_law_234 : decode cL_law 234 = .ok (.iadd, 1) ∧ 234 + 1 = 235 := ⟨by decide +kernel, rfl⟩
set_option maxRecDepth 20000 in
theorem dL_law_235 : decode cL_law 235 = .ok (.iaload, 1) ∧ 235 + 1 = 236 := ⟨by decide +kernel, rfl⟩
set_option maxRecDepth 20000 in
theorem dL_law_236 : decode cL_law 236 = .ok (.aload_n 0, 1) ∧ 236 + 1 = 237 := ⟨by decide +kernel, rfl⟩
set_option maxRecDepth 20000 in
theorem dL_law_237 : decode cL_law 237 = .ok (.iload_n 3, 1) ∧ 237 + 1 = 238 := ⟨by decide +kernel, rfl⟩
set_option maxRecDepth 20000 in
theorem dL_law_238 : decode cL_law 238 = .ok (.iconst 4, 1) ∧ 238 + 1 = 239 := ⟨by decide +kernel, rfl⟩
set_option maxRecDepth 20000 in
theorem dL_law_239 : decode cL_law 239 = .ok (.iadd, 1) ∧ 239 + 1 = 240 := ⟨by decide +kernel, rfl⟩
set_option maxRecDepth 20000 in
theorem dL_law_240 : decode cL_law 240 = .ok (.iaload, 1) ∧ 240 + 1 = 241 := ⟨by decide +kernel, rfl⟩
set_option maxRecDepth 20000 in
theorem dL_law_241 : decode cL_law 241 = .ok (.aload_n 0, 1) ∧ 241 + 1 = 242 := ⟨by decide +kernel, rfl⟩
set_option maxRecDepth 20000 in
theorem dL_law_242 : decode cL_law 242 = .ok (.iload_n 3, 1) ∧ 242 + 1 = 243 := ⟨by decide +kernel, rfl⟩
set_option maxRecDepth 20000 in
theorem dL_law_243 : decode cL_law 243 = .ok (.iconst 5, 1) ∧ 243 + 1 = 244 := ⟨by decide +kernel, rfl⟩
set_option maxRecDepth 20000 in
theorem dL_law_244 : decode cL_law 244 = .ok (.iadd, 1) ∧ 244 + 1 = 245 := ⟨by decide +kernel, rfl⟩
set_option maxRecDepth 20000 in
theorem dL_law_245 : decode cL_law 245 = .ok (.iaload, 1) ∧ 245 + 1 = 246 := ⟨by decide +kernel, rfl⟩
set_option maxRecDepth 20000 in
theorem dL_law_246 : decode cL_law 246 = .ok (.invokevirtual 13, 3) ∧ 246 + 3 = 249 := ⟨by decide +kernel, rfl⟩
set_option maxRecDepth 20000 in
theorem dL_law_249 : decode cL_law 249 = .ok (.aload_n 2, 1) ∧ 249 + 1 = 250 := ⟨by decide +kernel, rfl⟩
set_option maxRecDepth 20000 in
theorem dL_law_250 : decode cL_law 250 = .ok (.aload_n 0, 1) ∧ 250 + 1 = 251 := ⟨by decide +kernel, rfl⟩
set_option maxRecDepth 20000 in
theorem dL_law_251 : decode cL_law 251 = .ok (.iload_n 3, 1) ∧ 251 + 1 = 252 := ⟨by decide +kernel, rfl⟩
set_option maxRecDepth 20000 in
theorem dL_law_252 : decode cL_law 252 = .ok (.iconst 1, 1) ∧ 252 + 1 = 253 := ⟨by decide +kernel, rfl⟩
set_option maxRecDepth 20000 in
theorem dL_law_253 : decode cL_law 253 = .ok (.iadd, 1) ∧ 253 + 1 = 254 := ⟨by decide +kernel, rfl⟩
set_option maxRecDepth 20000 in
theorem dL_law_254 : decode cL_law 254 = .ok (.iaload, 1) ∧ 254 + 1 = 255 := ⟨by decide +kernel, rfl⟩
set_option maxRecDepth 20000 in
theorem dL_law_255 : decode cL_law 255 = .ok (.aload_n 0, 1) ∧ 255 + 1 = 256 := ⟨by decide +kernel, rfl⟩
set_option maxRecDepth 20000 in
theorem dL_law_256 : decode cL_law 256 = .ok (.iload_n 3, 1) ∧ 256 + 1 = 257 := ⟨by decide +kernel, rfl⟩
set_option maxRecDepth 20000 in
theorem dL_law_257 : decode cL_law 257 = .ok (.iconst 2, 1) ∧ 257 + 1 = 258 := ⟨by decide +kernel, rfl⟩
set_option maxRecDepth 20000 in
theorem dL_law_258 : decode cL_law 258 = .ok (.iadd, 1) ∧ 258 + 1 = 259 := ⟨by decide +kernel, rfl⟩
set_option maxRecDepth 20000 in
theorem dL_law_259 : decode cL_law 259 = .ok (.iaload, 1) ∧ 259 + 1 = 260 := ⟨by decide +kernel, rfl⟩
set_option maxRecDepth 20000 in
theorem dL_law_260 : decode cL_law 260 = .ok (.aload_n 0, 1) ∧ 260 + 1 = 261 := ⟨by decide +kernel, rfl⟩
set_option maxRecDepth 20000 in
theorem dL_law_261 : decode cL_law 261 = .ok (.iload_n 3, 1) ∧ 261 + 1 = 262 := ⟨by decide +kernel, rfl⟩
set_option maxRecDepth 20000 in
theorem dL_law_262 : decode cL_law 262 = .ok (.iconst 3, 1) ∧ 262 + 1 = 263 := ⟨by decide +kernel, rfl⟩
set_option maxRecDepth 20000 in
theorem dL_law_263 : decode cL_law 263 = .ok (.iadd, 1) ∧ 263 + 1 = 264 := ⟨by decide +kernel, rfl⟩
set_option maxRecDepth 20000 in
theorem dL_law_264 : decode cL_law 264 = .ok (.iaload, 1) ∧ 264 + 1 = 265 := ⟨by decide +kernel, rfl⟩
set_option maxRecDepth 20000 in
theorem dL_law_265 : decode cL_law 265 = .ok (.aload_n 0, 1) ∧ 265 + 1 = 266 := ⟨by decide +kernel, rfl⟩
set_option maxRecDepth 20000 in
theorem dL_law_266 : decode cL_law 266 = .ok (.iload_n 3, 1) ∧ 266 + 1 = 267 := ⟨by decide +kernel, rfl⟩
set_option maxRecDepth 20000 in
theorem dL_law_267 : decode cL_law 267 = .ok (.iconst 4, 1) ∧ 267 + 1 = 268 := ⟨by decide +kernel, rfl⟩
set_option maxRecDepth 20000 in
theorem dL_law_268 : decode cL_law 268 = .ok (.iadd, 1) ∧ 268 + 1 = 269 := ⟨by decide +kernel, rfl⟩
set_option maxRecDepth 20000 in
theorem dL_law_269 : decode cL_law 269 = .ok (.iaload, 1) ∧ 269 + 1 = 270 := ⟨by decide +kernel, rfl⟩
set_option maxRecDepth 20000 in
theorem dL_law_270 : decode cL_law 270 = .ok (.aload_n 0, 1) ∧ 270 + 1 = 271 := ⟨by decide +kernel, rfl⟩
set_option maxRecDepth 20000 in
theorem dL_law_271 : decode cL_law 271 = .ok (.iload_n 3, 1) ∧ 271 + 1 = 272 := ⟨by decide +kernel, rfl⟩
set_option maxRecDepth 20000 in
theorem dL_law_272 : decode cL_law 272 = .ok (.iconst 5, 1) ∧ 272 + 1 = 273 := ⟨by decide +kernel, rfl⟩
set_option maxRecDepth 20000 in
theorem dL_law_273 : decode cL_law 273 = .ok (.iadd, 1) ∧ 273 + 1 = 274 := ⟨by decide +kernel, rfl⟩
set_option maxRecDepth 20000 in
theorem dL_law_274 : decode cL_law 274 = .ok (.iaload, 1) ∧ 274 + 1 = 275 := ⟨by decide +kernel, rfl⟩
set_option maxRecDepth 20000 in
theorem dL_law_275 : decode cL_law 275 = .ok (.invokevirtual 17, 3) ∧ 275 + 3 = 278 := ⟨by decide +kernel, rfl⟩
set_option maxRecDepth 20000 in
theorem dL_law_278 : decode cL_law 278 = .ok (.if_icmp .eq 1208, 3) ∧ 278 + 3 = 281 ∧ ((278 : Nat) : Int) + (1208) = ((1486 : Nat) : Int) := ⟨by decide +kernel, rfl, by decide⟩
set_option maxRecDepth 20000 in
theorem dL_law_281 : decode cL_law 281 = .ok (.iconst 0, 1) ∧ 281 + 1 = 282 := ⟨by decide +kernel, rfl⟩
set_option maxRecDepth 20000 in
theorem dL_law_282 : decode cL_law 282 = .ok (.ireturn, 1) := by decide +kernel
set_option maxRecDepth 20000 in
theorem dL_law_283 : decode cL_law 283 = .ok (.aload_n 1, 1) ∧ 283 + 1 = 284 := ⟨by decide +kernel, rfl⟩
set_option maxRecDepth 20000 in
theorem dL_law_284 : decode cL_law 284 = .ok (.aload_n 0, 1) ∧ 284 + 1 = 285 := ⟨by decide +kernel, rfl⟩
set_option maxRecDepth 20000 in
theorem dL_law_285 : decode cL_law 285 = .ok (.iload_n 3, 1) ∧ 285 + 1 = 286 := ⟨by decide +kernel, rfl⟩
set_option maxRecDepth 20000 in
theorem dL_law_286 : decode cL_law 286 = .ok (.iconst 1, 1) ∧ 286 + 1 = 287 := ⟨by decide +kernel, rfl⟩
set_option maxRecDepth 20000 in
theorem dL_law_287 : decode cL_law 287 = .ok (.iadd, 1) ∧ 287 + 1 = 288 := ⟨by decide +kernel, rfl⟩
set_option maxRecDepth 20000 in
theorem dL_law_288 : decode cL_law 288 = .ok (.iaload, 1) ∧ 288 + 1 = 289 := ⟨by decide +kernel, rfl⟩
set_option maxRecDepth 20000 in
theorem dL_law_289 : decode cL_law 289 = .ok (.aload_n 0, 1) ∧ 289 + 1 = 290 := ⟨by decide +kernel, rfl⟩
set_option maxRecDepth 20000 in
theorem dL_law_290 : decode cL_law 290 = .ok (.iload_n 3, 1) ∧ 290 + 1 = 291 := ⟨by decide +kernel, rfl⟩
set_option maxRecDepth 20000 in
theorem dL_law_291 : decode cL_law 291 = .ok (.iconst 2, 1) ∧ 291 + 1 = 292 := ⟨by decide +kernel, rfl⟩
set_option maxRecDepth 20000 in
theorem dL_law_292 : decode cL_law 292 = .ok (.iadd, 1) ∧ 292 + 1 = 293 := ⟨by decide +kernel, rfl⟩
set_option maxRecDepth 20000 in
theorem dL_law_293 : decode cL_law 293 = .ok (.iaload, 1) ∧ 293 + 1 = 294 := ⟨by decide +kernel, rfl⟩
set_option maxRecDepth 20000 in
theorem dL_law_294 : decode cL_law 294 = .ok (.aload_n 0, 1) ∧ 294 + 1 = 295 := ⟨by decide +kernel, rfl⟩
set_option maxRecDepth 20000 in
theorem dL_law_295 : decode cL_law 295 = .ok (.iload_n 3, 1) ∧ 295 + 1 = 296 := ⟨by decide +kernel, rfl⟩
set_option maxRecDepth 20000 in
theorem dL_law_296 : decode cL_law 296 = .ok (.iconst 3, 1) ∧ 296 + 1 = 297 := ⟨by decide +kernel, rfl⟩
set_option maxRecDepth 20000 in
theorem dL_law_297 : decode cL_law 297 = .ok (.iadd, 1) ∧ 297 + 1 = 298 := ⟨by decide +kernel, rfl⟩
set_option maxRecDepth 20000 in
theorem dL_law_298 : decode cL_law 298 = .ok (.iaload, 1) ∧ 298 + 1 = 299 := ⟨by decide +kernel, rfl⟩
set_option maxRecDepth 20000 in
theorem dL_law_299 : decode cL_law 299 = .ok (.invokevirtual 18, 3) ∧ 299 + 3 = 302 := ⟨by decide +kernel, rfl⟩
set_option maxRecDepth 20000 in
theorem dL_law_302 : decode cL_law 302 = .ok (.aload_n 2, 1) ∧ 302 + 1 = 303 := ⟨by decide +kernel, rfl⟩
set_option maxRecDepth 20000 in
theorem dL_law_303 : decode cL_law 303 = .ok (.aload_n 0, 1) ∧ 303 + 1 = 304 := ⟨by decide +kernel, rfl⟩
set_option maxRecDepth 20000 in
theorem dL_law_304 : decode cL_law 304 = .ok (.iload_n 3, 1) ∧ 304 + 1 = 305 := ⟨by decide +kernel, rfl⟩
set_option maxRecDepth 20000 in
theorem dL_law_305 : decode cL_law 305 = .ok (.iconst 1, 1) ∧ 305 + 1 = 306 := ⟨by decide +kernel, rfl⟩
set_option maxRecDepth 20000 in
theorem dL_law_306 : decode cL_law 306 = .ok (.iadd, 1) ∧ 306 + 1 = 307 := ⟨by decide +kernel, rfl⟩
set_option maxRecDepth 20000 in
theorem dL_law_307 : decode cL_law 307 = .ok (.iaload, 1) ∧ 307 + 1 = 308 := ⟨by decide +kernel, rfl⟩
set_option maxRecDepth 20000 in
theorem dL_law_308 : decode cL_law 308 = .ok (.aload_n 0, 1) ∧ 308 + 1 = 309 := ⟨by decide +kernel, rfl⟩
set_option maxRecDepth 20000 in
theorem dL_law_309 : decode cL_law 309 = .ok (.iload_n 3, 1) ∧ 309 + 1 = 310 := ⟨by decide +kernel, rfl⟩
set_option maxRecDepth 20000 in
theorem dL_law_310 : decode cL_law 310 = .ok (.iconst 2, 1) ∧ 310 + 1 = 311 := ⟨by decide +kernel, rfl⟩
set_option maxRecDepth 20000 in
theorem dL_law_311 : decode cL_law 311 = .ok (.iadd, 1) ∧ 311 + 1 = 312 := ⟨by decide +kernel, rfl⟩
set_option maxRecDepth 20000 in
theorem dL_law_312 : decode cL_law 312 = .ok (.iaload, 1) ∧ 312 + 1 = 313 := ⟨by decide +kernel, rfl⟩
set_option maxRecDepth 20000 in
theorem dL_law_313 : decode cL_law 313 = .ok (.aload_n 0, 1) ∧ 313 + 1 = 314 := ⟨by decide +kernel, rfl⟩
set_option maxRecDepth 20000 in
theorem dL_law_314 : decode cL_law 314 = .ok (.iload_n 3, 1) ∧ 314 + 1 = 315 := ⟨by decide +kernel, rfl⟩
set_option maxRecDepth 20000 in
theorem dL_law_315 : decode cL_law 315 = .ok (.iconst 3, 1) ∧ 315 + 1 = 316 := ⟨by decide +kernel, rfl⟩
set_option maxRecDepth 20000 in
theorem dL_law_316 : decode cL_law 316 = .ok (.iadd, 1) ∧ 316 + 1 = 317 := ⟨by decide +kernel, rfl⟩
set_option maxRecDepth 20000 in
theorem dL_law_317 : decode cL_law 317 = .ok (.iaload, 1) ∧ 317 + 1 = 318 := ⟨by decide +kernel, rfl⟩
set_option maxRecDepth 20000 in
theorem dL_law_318 : decode cL_law 318 = .ok (.invokevirtual 22, 3) ∧ 318 + 3 = 321 := ⟨by decide +kernel, rfl⟩
set_option maxRecDepth 20000 in
theorem dL_law_321 : decode cL_law 321 = .ok (.if_icmp .eq 1165, 3) ∧ 321 + 3 = 324 ∧ ((321 : Nat) : Int) + (1165) = ((1486 : Nat) : Int) := ⟨by decide +kernel, rfl, by decide⟩
set_option maxRecDepth 20000 in
theorem dL_law_324 : decode cL_law 324 = .ok (.iconst 0, 1) ∧ 324 + 1 = 325 := ⟨by decide +kernel, rfl⟩
set_option maxRecDepth 20000 in
theorem dL_law_325 : decode cL_law 325 = .ok (.ireturn, 1) := by decide +kernel
set_option maxRecDepth 20000 in
theorem dL_law_326 : decode cL_law 326 = .ok (.aload_n 1, 1) ∧ 326 + 1 = 327 := ⟨by decide +kernel, rfl⟩
set_option maxRecDepth 20000 in
theorem dL_law_327 : decode cL_law 327 = .ok (.aload_n 0, 1) ∧ 327 + 1 = 328 := ⟨by decide +kernel, rfl⟩
set_option maxRecDepth 20000 in
theorem dL_law_328 : decode cL_law 328 = .ok (.iload_n 3, 1) ∧ 328 + 1 = 329 := ⟨by decide +kernel, rfl⟩
set_option maxRecDepth 20000 in
theorem dL_law_329 : decode cL_law 329 = .ok (.iconst 1, 1) ∧ 329 + 1 = 330 := ⟨by decide +kernel, rfl⟩
set_option maxRecDepth 20000 in
theorem dL_law_330 : decode cL_law 330 = .ok (.iadd, 1) ∧ 330 + 1 = 331 := ⟨by decide +kernel, rfl⟩
set_option maxRecDepth 20000 in
theorem dL_law_331 : decode cL_law 331 = .ok (.iaload, 1) ∧ 331 + 1 = 332 := ⟨by decide +kernel, rfl⟩
set_option maxRecDepth 20000 in
theorem dL_law_332 : decode cL_law 332 = .ok (.aload_n 0, 1) ∧ 332 + 1 = 333 := ⟨by decide +kernel, rfl⟩
set_option maxRecDepth 20000 in
theorem dL_law_333 : decode cL_law 333 = .ok (.iload_n 3, 1) ∧ 333 + 1 = 334 := ⟨by decide +kernel, rfl⟩
set_option maxRecDepth 20000 in
theorem dL_law_334 : decode cL_law 334 = .ok (.iconst 2, 1) ∧ 334 + 1 = 335 := ⟨by decide +kernel, rfl⟩
set_option maxRecDepth 20000 in
theorem dL_law_335 : decode cL_law 335 = .ok (.iadd, 1) ∧ 335 + 1 = 336 := ⟨by decide +kernel, rfl⟩
set_option maxRecDepth 20000 in
theorem dL_law_336 : decode cL_law 336 = .ok (.iaload, 1) ∧ 336 + 1 = 337 := ⟨by decide +kernel, rfl⟩
set_option maxRecDepth 20000 in
theorem dL_law_337 : decode cL_law 337 = .ok (.invokevirtual 23, 3) ∧ 337 + 3 = 340 := ⟨by decide +kernel, rfl⟩
set_option maxRecDepth 20000 in
theorem dL_law_340 : decode cL_law 340 = .ok (.aload_n 2, 1) ∧ 340 + 1 = 341 := ⟨by decide +kernel, rfl⟩
set_option maxRecDepth 20000 in
theorem dL_law_341 : decode cL_law 341 = .ok (.aload_n 0, 1) ∧ 341 + 1 = 342 := ⟨by decide +kernel, rfl⟩
set_option maxRecDepth 20000 in
theorem dL_law_342 : decode cL_law 342 = .ok (.iload_n 3, 1) ∧ 342 + 1 = 343 := ⟨by decide +kernel, rfl⟩
set_option maxRecDepth 20000 in
theorem dL_law_343 : decode cL_law 343 = .ok (.iconst 1, 1) ∧ 343 + 1 = 344 := ⟨by decide +kernel, rfl⟩
set_option maxRecDepth 20000 in
theorem dL_law_344 : decode cL_law 344 = .ok (.iadd, 1) ∧ 344 + 1 = 345 := ⟨by decide +kernel, rfl⟩
set_option maxRecDepth 20000 in
theorem dL_law_345 : decode cL_law 345 = .ok (.iaload, 1) ∧ 345 + 1 = 346 := ⟨by decide +kernel, rfl⟩
set_option maxRecDepth 20000 in
theorem dL_law_346 : decode cL_law 346 = .ok (.aload_n 0, 1) ∧ 346 + 1 = 347 := ⟨by decide +kernel, rfl⟩
set_option maxRecDepth 20000 in
theorem dL_law_347 : decode cL_law 347 = .ok (.iload_n 3, 1) ∧ 347 + 1 = 348 := ⟨by decide +kernel, rfl⟩
set_option maxRecDepth 20000 in
theorem dL_law_348 : decode cL_law 348 = .ok (.iconst 2, 1) ∧ 348 + 1 = 349 := ⟨by decide +kernel, rfl⟩
set_option maxRecDepth 20000 in
theorem dL_law_349 : decode cL_law 349 = .ok (.iadd, 1) ∧ 349 + 1 = 350 := ⟨by decide +kernel, rfl⟩
set_option maxRecDepth 20000 in
theorem dL_law_350 : decode cL_law 350 = .ok (.iaload, 1) ∧ 350 + 1 = 351 := ⟨by decide +kernel, rfl⟩
set_option maxRecDepth 20000 in
theorem dL_law_351 : decode cL_law 351 = .ok (.invokevirtual 27, 3) ∧ 351 + 3 = 354 := ⟨by decide +kernel, rfl⟩
set_option maxRecDepth 20000 in
theorem dL_law_354 : decode cL_law 354 = .ok (.if_icmp .eq 1132, 3) ∧ 354 + 3 = 357 ∧ ((354 : Nat) : Int) + (1132) = ((1486 : Nat) : Int) := ⟨by decide +kernel, rfl, by decide⟩
set_option maxRecDepth 20000 in
theorem dL_law_357 : decode cL_law 357 = .ok (.iconst 0, 1) ∧ 357 + 1 = 358 := ⟨by decide +kernel, rfl⟩
set_option maxRecDepth 20000 in
theorem dL_law_358 : decode cL_law 358 = .ok (.ireturn, 1) := by decide +kernel
set_option maxRecDepth 20000 in
theorem dL_law_359 : decode cL_law 359 = .ok (.aload_n 1, 1) ∧ 359 + 1 = 360 := ⟨by decide +kernel, rfl⟩
set_option maxRecDepth 20000 in
theorem dL_law_360 : decode cL_law 360 = .ok (.aload_n 0, 1) ∧ 360 + 1 = 361 := ⟨by decide +kernel, rfl⟩
set_option maxRecDepth 20000 in
theorem dL_law_361 : decode cL_law 361 = .ok (.iload_n 3, 1) ∧ 361 + 1 = 362 := ⟨by decide +kernel, rfl⟩
set_option maxRecDepth 20000 in
theorem dL_law_362 : decode cL_law 362 = .ok (.iconst 1, 1) ∧ 362 + 1 = 363 := ⟨by decide +kernel, rfl⟩
set_option maxRecDepth 20000 in
theorem dL_law_363 : decode cL_law 363 = .ok (.iadd, 1) ∧ 363 + 1 = 364 := ⟨by decide +kernel, rfl⟩
set_option maxRecDepth 20000 in
theorem dL_law_364 : decode cL_law 364 = .ok (.iaload, 1) ∧ 364 + 1 = 365 := ⟨by decide +kernel, rfl⟩
set_option maxRecDepth 20000 in
theorem dL_law_365 : decode cL_law 365 = .ok (.aload_n 0, 1) ∧ 365 + 1 = 366 := ⟨by decide +kernel, rfl⟩
set_option maxRecDepth 20000 in
theorem dL_law_366 : decode cL_law 366 = .ok (.iload_n 3, 1) ∧ 366 + 1 = 367 := ⟨by decide +kernel, rfl⟩
set_option maxRecDepth 20000 in
theorem dL_law_367 : decode cL_law 367 = .ok (.iconst 2, 1) ∧ 367 + 1 = 368 := ⟨by decide +kernel, rfl⟩
set_option maxRecDepth 20000 in
theorem dL_law_368 : decode cL_law 368 = .ok (.iadd, 1) ∧ 368 + 1 = 369 := ⟨by decide +kernel, rfl⟩
set_option maxRecDepth 20000 in
theorem dL_law_369 : decode cL_law 369 = .ok (.iaload, 1) ∧ 369 + 1 = 370 := ⟨by decide +kernel, rfl⟩
set_option maxRecDepth 20000 in
theorem dL_law_370 : decode cL_law 370 = .ok (.invokevirtual 28, 3) ∧ 370 + 3 = 373 := ⟨by decide +kernel, rfl⟩
set_option maxRecDepth 20000 in
theorem dL_law_373 : decode cL_law 373 = .ok (.aload_n 2, 1) ∧ 373 + 1 = 374 := ⟨by decide +kernel, rfl⟩
set_option maxRecDepth 20000 in
theorem dL_law_374 : decode cL_law 374 = .ok (.aload_n 0, 1) ∧ 374 + 1 = 375 := ⟨by decide +kernel, rfl⟩
set_option maxRecDepth 20000 in
theorem dL_law_375 : decode cL_law 375 = .ok (.iload_n 3, 1) ∧ 375 + 1 = 376 := ⟨by decide +kernel, rfl⟩
set_option maxRecDepth 20000 in
theorem dL_law_376 : decode cL_law 376 = .ok (.iconst 1, 1) ∧ 376 + 1 = 377 := ⟨by decide +kernel, rfl⟩
set_option maxRecDepth 20000 in
theorem dL_law_377 : decode cL_law 377 = .ok (.iadd, 1) ∧ 377 + 1 = 378 := ⟨by decide +kernel, rfl⟩
set_option maxRecDepth 20000 in
theorem dL_law_378 : decode cL_law 378 = .ok (.iaload, 1) ∧ 378 + 1 = 379 := ⟨by decide +kernel, rfl⟩
set_option maxRecDepth 20000 in
theorem dL_law_379 : decode cL_law 379 = .ok (.aload_n 0, 1) ∧ 379 + 1 = 380 := ⟨by decide +kernel, rfl⟩
set_option maxRecDepth 20000 in
theorem dL_law_380 : decode cL_law 380 = .ok (.iload_n 3, 1) ∧ 380 + 1 = 381 := ⟨by decide +kernel, rfl⟩
set_option maxRecDepth 20000 in
theorem dL_law_381 : decode cL_law 381 = .ok (.iconst 2, 1) ∧ 381 + 1 = 382 := ⟨by decide +kernel, rfl⟩
set_option maxRecDepth 20000 in
theorem dL_law_382 : decode cL_law 382 = .ok (.iadd, 1) ∧ 382 + 1 = 383 := ⟨by decide +kernel, rfl⟩
set_option maxRecDepth 20000 in
theorem dL_law_383 : decode cL_law 383 = .ok (.iaload, 1) ∧ 383 + 1 = 384 := ⟨by decide +kernel, rfl⟩
set_option maxRecDepth 20000 in
theorem dL_law_384 : decode cL_law 384 = .ok (.invokevirtual 31, 3) ∧ 384 + 3 = 387 := ⟨by decide +kernel, rfl⟩
set_option maxRecDepth 20000 in
theorem dL_law_387 : decode cL_law 387 = .ok (.if_icmp .eq 1099, 3) ∧ 387 + 3 = 390 ∧ ((387 : Nat) : Int) + (1099) = ((1486 : Nat) : Int) := ⟨by decide +kernel, rfl, by decide⟩
set_option maxRecDepth 20000 in
theorem dL_law_390 : decode cL_law 390 = .ok (.iconst 0, 1) ∧ 390 + 1 = 391 := ⟨by decide +kernel, rfl⟩
set_option maxRecDepth 20000 in
theorem dL_law_391 : decode cL_law 391 = .ok (.ireturn, 1) := by decide +kernel
set_option maxRecDepth 20000 in
theorem dL_law_392 : decode cL_law 392 = .ok (.aload_n 1, 1) ∧ 392 + 1 = 393 := ⟨by decide +kernel, rfl⟩
set_option maxRecDepth 20000 in
theorem dL_law_393 : decode cL_law 393 = .ok (.invokevirtual 32, 3) ∧ 393 + 3 = 396 := ⟨by decide +kernel, rfl⟩
set_option maxRecDepth 20000 in
theorem dL_law_396 : decode cL_law 396 = .ok (.aload_n 2, 1) ∧ 396 + 1 = 397 := ⟨by decide +kernel, rfl⟩
set_option maxRecDepth 20000 in
theorem dL_law_397 : decode cL_law 397 = .ok (.invokevirtual 36, 3) ∧ 397 + 3 = 400 := ⟨by decide +kernel, rfl⟩
set_option maxRecDepth 20000 in
theorem dL_law_400 : decode cL_law 400 = .ok (.if_icmp .eq 1086, 3) ∧ 400 + 3 = 403 ∧ ((400 : Nat) : Int) + (1086) = ((1486 : Nat) : Int) := ⟨by decide +kernel, rfl, by decide⟩
set_option maxRecDepth 20000 in
theorem dL_law_403 : decode cL_law 403 = .ok (.iconst 0, 1) ∧ 403 + 1 = 404 := ⟨by decide +kernel, rfl⟩
set_option maxRecDepth 20000 in
theorem dL_law_404 : decode cL_law 404 = .ok (.ireturn, 1) := by decide +kernel
set_option maxRecDepth 20000 in
theorem dL_law_405 : decode cL_law 405 = .ok (.aload_n 1, 1) ∧ 405 + 1 = 406 := ⟨by decide +kernel, rfl⟩
set_option maxRecDepth 20000 in
theorem dL_law_406 : decode cL_law 406 = .ok (.aload_n 0, 1) ∧ 406 + 1 = 407 := ⟨by decide +kernel, rfl⟩
set_option maxRecDepth 20000 in
theorem dL_law_407 : decode cL_law 407 = .ok (.iload_n 3, 1) ∧ 407 + 1 = 408 := ⟨by decide +kernel, rfl⟩
set_option maxRecDepth 20000 in
theorem dL_law_408 : decode cL_law 408 = .ok (.iconst 1, 1) ∧ 408 + 1 = 409 := ⟨by decide +kernel, rfl⟩
set_option maxRecDepth 20000 in
theorem dL_law_409 : decode cL_law 409 = .ok (.iadd, 1) ∧ 409 + 1 = 410 := ⟨by decide +kernel, rfl⟩
set_option maxRecDepth 20000 in
theorem dL_law_410 : decode cL_law 410 = .ok (.iaload, 1) ∧ 410 + 1 = 411 := ⟨by decide +kernel, rfl⟩
set_option maxRecDepth 20000 in
theorem dL_law_411 : decode cL_law 411 = .ok (.aload_n 0, 1) ∧ 411 + 1 = 412 := ⟨by decide +kernel, rfl⟩
set_option maxRecDepth 20000 in
theorem dL_law_412 : decode cL_law 412 = .ok (.iload_n 3, 1) ∧ 412 + 1 = 413 := ⟨by decide +kernel, rfl⟩
set_option maxRecDepth 20000 in
theorem dL_law_413 : decode cL_law 413 = .ok (.iconst 2, 1) ∧ 413 + 1 = 414 := ⟨by decide +kernel, rfl⟩
set_option maxRecDepth 20000 in
theorem dL_law_414 : decode cL_law 414 = .ok (.iadd, 1) ∧ 414 + 1 = 415 := ⟨by decide +kernel, rfl⟩
set_option maxRecDepth 20000 in
theorem dL_law_415 : decode cL_law 415 = .ok (.iaload, 1) ∧ 415 + 1 = 416 := ⟨by decide +kernel, rfl⟩
set_option maxRecDepth 20000 in
theorem dL_law_416 : decode cL_law 416 = .ok (.invokevirtual 37, 3) ∧ 416 + 3 = 419 := ⟨by decide +kernel, rfl⟩
set_option maxRecDepth 20000 in
theorem dL_law_419 : decode cL_law 419 = .ok (.aload_n 2, 1) ∧ 419 + 1 = 420 := ⟨by decide +kernel, rfl⟩
set_option maxRecDepth 20000 in
theorem dL_law_420 : decode cL_law 420 = .ok (.aload_n 0, 1) ∧ 420 + 1 = 421 := ⟨by decide +kernel, rfl⟩
set_option maxRecDepth 20000 in
theorem dL_law_421 : decode cL_law 421 = .ok (.iload_n 3, 1) ∧ 421 + 1 = 422 := ⟨by decide +kernel, rfl⟩
set_option maxRecDepth 20000 in
theorem dL_law_422 : decode cL_law 422 = .ok (.iconst 1, 1) ∧ 422 + 1 = 423 := ⟨by decide +kernel, rfl⟩
set_option maxRecDepth 20000 in
theorem dL_law_423 : decode cL_law 423 = .ok (.iadd, 1) ∧ 423 + 1 = 424 := ⟨by decide +kernel, rfl⟩
set_option maxRecDepth 20000 in
theorem dL_law_424 : decode cL_law 424 = .ok (.iaload, 1) ∧ 424 + 1 = 425 := ⟨by decide +kernel, rfl⟩
set_option maxRecDepth 20000 in
theorem dL_law_425 : decode cL_law 425 = .ok (.aload_n 0, 1) ∧ 425 + 1 = 426 := ⟨by decide +kernel, rfl⟩
set_option maxRecDepth 20000 in
theorem dL_law_426 : decode cL_law 426 = .ok (.iload_n 3, 1) ∧ 426 + 1 = 427 := ⟨by decide +kernel, rfl⟩
set_option maxRecDepth 20000 in
theorem dL_law_427 : decode cL_law 427 = .ok (.iconst 2, 1) ∧ 427 + 1 = 428 := ⟨by decide +kernel, rfl⟩
set_option maxRecDepth 20000 in
theorem dL_law_428 : decode cL_law 428 = .ok (.iadd, 1) ∧ 428 + 1 = 429 := ⟨by decide +kernel, rfl⟩
set_option maxRecDepth 20000 in
theorem dL_law_429 : decode cL_law 429 = .ok (.iaload, 1) ∧ 429 + 1 = 430 := ⟨by decide +kernel, rfl⟩
set_option maxRecDepth 20000 in
theorem dL_law_430 : decode cL_law 430 = .ok (.invokevirtual 40, 3) ∧ 430 + 3 = 433 := ⟨by decide +kernel, rfl⟩
set_option maxRecDepth 20000 in
theorem dL_law_433 : decode cL_law 433 = .ok (.if_icmp .eq 1053, 3) ∧ 433 + 3 = 436 ∧ ((433 : Nat) : Int) + (1053) = ((1486 : Nat) : Int) := ⟨by decide +kernel, rfl, by decide⟩
set_option maxRecDepth 20000 in
theorem dL_law_436 : decode cL_law 436 = .ok (.iconst 0, 1) ∧ 436 + 1 = 437 := ⟨by decide +kernel, rfl⟩
set_option maxRecDepth 20000 in
theorem dL_law_437 : decode cL_law 437 = .ok (.ireturn, 1) := by decide +kernel
set_option maxRecDepth 20000 in
theorem dL_law_438 : decode cL_law 438 = .ok (.aload_n 1, 1) ∧ 438 + 1 = 439 := ⟨by decide +kernel, rfl⟩
set_option maxRecDepth 20000 in
theorem dL_law_439 : decode cL_law 439 = .ok (.aload_n 0, 1) ∧ 439 + 1 = 440 := ⟨by decide +kernel, rfl⟩
set_option maxRecDepth 20000 in
theorem dL_law_440 : decode cL_law 440 = .ok (.iload_n 3, 1) ∧ 440 + 1 = 441 := ⟨by decide +kernel, rfl⟩
set_option maxRecDepth 20000 in
theorem dL_law_441 : decode cL_law 441 = .ok (.iconst 1, 1) ∧ 441 + 1 = 442 := ⟨by decide +kernel, rfl⟩
set_option maxRecDepth 20000 in
theorem dL_law_442 : decode cL_law 442 = .ok (.iadd, 1) ∧ 442 + 1 = 443 := ⟨by decide +kernel, rfl⟩
set_option maxRecDepth 20000 in
theorem dL_law_443 : decode cL_law 443 = .ok (.iaload, 1) ∧ 443 + 1 = 444 := ⟨by decide +kernel, rfl⟩
set_option maxRecDepth 20000 in
theorem dL_law_444 : decode cL_law 444 = .ok (.invokevirtual 41, 3) ∧ 444 + 3 = 447 := ⟨by decide +kernel, rfl⟩
set_option maxRecDepth 20000 in
theorem dL_law_447 : decode cL_law 447 = .ok (.aload_n 2, 1) ∧ 447 + 1 = 448 := ⟨by decide +kernel, rfl⟩
set_option maxRecDepth 20000 in
theorem dL_law_448 : decode cL_law 448 = .ok (.aload_n 0, 1) ∧ 448 + 1 = 449 := ⟨by decide +kernel, rfl⟩
set_option maxRecDepth 20000 in
theorem dL_law_449 : decode cL_law 449 = .ok (.iload_n 3, 1) ∧ 449 + 1 = 450 := ⟨by decide +kernel, rfl⟩
set_option maxRecDepth 20000 in
theorem dL_law_450 : decode cL_law 450 = .ok (.iconst 1, 1) ∧ 450 + 1 = 451 := ⟨by decide +kernel, rfl⟩
set_option maxRecDepth 20000 in
theorem dL_law_451 : decode cL_law 451 = .ok (.iadd, 1) ∧ 451 + 1 = 452 := ⟨by decide +kernel, rfl⟩
set_option maxRecDepth 20000 in
theorem dL_law_452 : decode cL_law 452 = .ok (.iaload, 1) ∧ 452 + 1 = 453 := ⟨by decide +kernel, rfl⟩
set_option maxRecDepth 20000 in
theorem dL_law_453 : decode cL_law 453 = .ok (.invokevirtual 45, 3) ∧ 453 + 3 = 456 := ⟨by decide +kernel, rfl⟩
set_option maxRecDepth 20000 in
theorem dL_law_456 : decode cL_law 456 = .ok (.if_icmp .eq 1030, 3) ∧ 456 + 3 = 459 ∧ ((456 : Nat) : Int) + (1030) = ((1486 : Nat) : Int) := ⟨by decide +kernel, rfl, by decide⟩
set_option maxRecDepth 20000 in
theorem dL_law_459 : decode cL_law 459 = .ok (.iconst 0, 1) ∧ 459 + 1 = 460 := ⟨by decide +kernel, rfl⟩
set_option maxRecDepth 20000 in
theorem dL_law_460 : decode cL_law 460 = .ok (.ireturn, 1) := by decide +kernel
set_option maxRecDepth 20000 in
theorem dL_law_461 : decode cL_law 461 = .ok (.aload_n 1, 1) ∧ 461 + 1 = 462 := ⟨by decide +kernel, rfl⟩
set_option maxRecDepth 20000 in
theorem dL_law_462 : decode cL_law 462 = .ok (.aload_n 0, 1) ∧ 462 + 1 = 463 := ⟨by decide +kernel, rfl⟩
set_option maxRecDepth 20000 in
theorem dL_law_463 : decode cL_law 463 = .ok (.iload_n 3, 1) ∧ 463 + 1 = 464 := ⟨by decide +kernel, rfl⟩
set_option maxRecDepth 20000 in
theorem dL_law_464 : decode cL_law 464 = .ok (.iconst 1, 1) ∧ 464 + 1 = 465 := ⟨by decide +kernel, rfl⟩
set_option maxRecDepth 20000 in
theorem dL_law_465 : decode cL_law 465 = .ok (.iadd, 1) ∧ 465 + 1 = 466 := ⟨by decide +kernel, rfl⟩
set_option maxRecDepth 20000 in
theorem dL_law_466 : decode cL_law 466 = .ok (.iaload, 1) ∧ 466 + 1 = 467 := ⟨by decide +kernel, rfl⟩
set_option maxRecDepth 20000 in
theorem dL_law_467 : decode cL_law 467 = .ok (.aload_n 0, 1) ∧ 467 + 1 = 468 := ⟨by decide +kernel, rfl⟩
set_option maxRecDepth 20000 in
theorem dL_law_468 : decode cL_law 468 = .ok (.iload_n 3, 1) ∧ 468 + 1 = 469 := ⟨by decide +kernel, rfl⟩
set_option maxRecDepth 20000 in
theorem dL_law_469 : decode cL_law 469 = .ok (.iconst 2, 1) ∧ 469 + 1 = 470 := ⟨by decide +kernel, rfl⟩
set_option maxRecDepth 20000 in
theorem dL_law_470 : decode cL_law 470 = .ok (.iadd, 1) ∧ 470 + 1 = 471 := ⟨by decide +kernel, rfl⟩
set_option maxRecDepth 20000 in
theorem dL_law_471 : decode cL_law 471 = .ok (.iaload, 1) ∧ 471 + 1 = 472 := ⟨by decide +kernel, rfl⟩
set_option maxRecDepth 20000 in
theorem dL_law_472 : decode cL_law 472 = .ok (.invokevirtual 46, 3) ∧ 472 + 3 = 475 := ⟨by decide +kernel, rfl⟩
set_option maxRecDepth 20000 in
theorem dL_law_475 : decode cL_law 475 = .ok (.aload_n 2, 1) ∧ 475 + 1 = 476 := ⟨by decide +kernel, rfl⟩
set_option maxRecDepth 20000 in
theorem dL_law_476 : decode cL_law 476 = .ok (.aload_n 0, 1) ∧ 476 + 1 = 477 := ⟨by decide +kernel, rfl⟩
set_option maxRecDepth 20000 in
theorem dL_law_477 : decode cL_law 477 = .ok (.iload_n 3, 1) ∧ 477 + 1 = 478 := ⟨by decide +kernel, rfl⟩
set_option maxRecDepth 20000 in
theorem dL_law_478 : decode cL_law 478 = .ok (.iconst 1, 1) ∧ 478 + 1 = 479 := ⟨by decide +kernel, rfl⟩
set_option maxRecDepth 20000 in
theorem dL_law_479 : decode cL_law 479 = .ok (.iadd, 1) ∧ 479 + 1 = 480 := ⟨by decide +kernel, rfl⟩
set_option maxRecDepth 20000 in
theorem dL_law_480 : decode cL_law 480 = .ok (.iaload, 1) ∧ 480 + 1 = 481 := ⟨by decide +kernel, rfl⟩
set_option maxRecDepth 20000 in
theorem dL_law_481 : decode cL_law 481 = .ok (.aload_n 0, 1) ∧ 481 + 1 = 482 := ⟨by decide +kernel, rfl⟩
set_option maxRecDepth 20000 in
theorem dL_law_482 : decode cL_law 482 = .ok (.iload_n 3, 1) ∧ 482 + 1 = 483 := ⟨by decide +kernel, rfl⟩
set_option maxRecDepth 20000 in
theorem dL_law_483 : decode cL_law 483 = .ok (.iconst 2, 1) ∧ 483 + 1 = 484 := ⟨by decide +kernel, rfl⟩
set_option maxRecDepth 20000 in
theorem dL_law_484 : decode cL_law 484 = .ok (.iadd, 1) ∧ 484 + 1 = 485 := ⟨by decide +kernel, rfl⟩
set_option maxRecDepth 20000 in
theorem dL_law_485 : decode cL_law 485 = .ok (.iaload, 1) ∧ 485 + 1 = 486 := ⟨by decide +kernel, rfl⟩
set_option maxRecDepth 20000 in
theorem dL_law_486 : decode cL_law 486 = .ok (.invokevirtual 49, 3) ∧ 486 + 3 = 489 := ⟨by decide +kernel, rfl⟩
set_option maxRecDepth 20000 in
theorem dL_law_489 : decode cL_law 489 = .ok (.if_icmp .eq 997, 3) ∧ 489 + 3 = 492 ∧ ((489 : Nat) : Int) + (997) = ((1486 : Nat) : Int) := ⟨by decide +kernel, rfl, by decide⟩
set_option maxRecDepth 20000 in
theorem dL_law_492 : decode cL_law 492 = .ok (.iconst 0, 1) ∧ 492 + 1 = 493 := ⟨by decide +kernel, rfl⟩
set_option maxRecDepth 20000 in
theorem dL_law_493 : decode cL_law 493 = .ok (.ireturn, 1) := by decide +kernel
set_option maxRecDepth 20000 in
theorem dL_law_494 : decode cL_law 494 = .ok (.aload_n 1, 1) ∧ 494 + 1 = 495 := ⟨by decide +kernel, rfl⟩
set_option maxRecDepth 20000 in
theorem dL_law_495 : decode cL_law 495 = .ok (.aload_n 0, 1) ∧ 495 + 1 = 496 := ⟨by decide +kernel, rfl⟩
set_option maxRecDepth 20000 in
theorem dL_law_496 : decode cL_law 496 = .ok (.iload_n 3, 1) ∧ 496 + 1 = 497 := ⟨by decide +kernel, rfl⟩
set_option maxRecDepth 20000 in
theorem dL_law_497 : decode cL_law 497 = .ok (.iconst 1, 1) ∧ 497 + 1 = 498 := ⟨by decide +kernel, rfl⟩
set_option maxRecDepth 20000 in
theorem dL_law_498 : decode cL_law 498 = .ok (.iadd, 1) ∧ 498 + 1 = 499 := ⟨by decide +kernel, rfl⟩
set_option maxRecDepth 20000 in
theorem dL_law_499 : decode cL_law 499 = .ok (.iaload, 1) ∧ 499 + 1 = 500 := ⟨by decide +kernel, rfl⟩
set_option maxRecDepth 20000 in
theorem dL_law_500 : decode cL_law 500 = .ok (.aload_n 0, 1) ∧ 500 + 1 = 501 := ⟨by decide +kernel, rfl⟩
set_option maxRecDepth 20000 in
theorem dL_law_501 : decode cL_law 501 = .ok (.iload_n 3, 1) ∧ 501 + 1 = 502 := ⟨by decide +kernel, rfl⟩
set_option maxRecDepth 20000 in
theorem dL_law_502 : decode cL_law 502 = .ok (.iconst 2, 1) ∧ 502 + 1 = 503 := ⟨by decide +kernel, rfl⟩
set_option maxRecDepth 20000 in
theorem dL_law_503 : decode cL_law 503 = .ok (.iadd, 1) ∧ 503 + 1 = 504 := ⟨by decide +kernel, rfl⟩
set_option maxRecDepth 20000 in
theorem dL_law_504 : decode cL_law 504 = .ok (.iaload, 1) ∧ 504 + 1 = 505 := ⟨by decide +kernel, rfl⟩
set_option maxRecDepth 20000 in
theorem dL_law_505 : decode cL_law 505 = .ok (.aload_n 0, 1) ∧ 505 + 1 = 506 := ⟨by decide +kernel, rfl⟩
set_option maxRecDepth 20000 in
theorem dL_law_506 : decode cL_law 506 = .ok (.iload_n 3, 1) ∧ 506 + 1 = 507 := ⟨by decide +kernel, rfl⟩
set_option maxRecDepth 20000 in
theorem dL_law_507 : decode cL_law 507 = .ok (.iconst 3, 1) ∧ 507 + 1 = 508 := ⟨by decide +kernel, rfl⟩
set_option maxRecDepth 20000 in
theorem dL_law_508 : decode cL_law 508 = .ok (.iadd, 1) ∧ 508 + 1 = 509 := ⟨by decide +kernel, rfl⟩
set_option maxRecDepth 20000 in
theorem dL_law_509 : decode cL_law 509 = .ok (.iaload, 1) ∧ 509 + 1 = 510 := ⟨by decide +kernel, rfl⟩
set_option maxRecDepth 20000 in
theorem dL_law_510 : decode cL_law 510 = .ok (.aload_n 0, 1) ∧ 510 + 1 = 511 := ⟨by decide +kernel, rfl⟩
set_option maxRecDepth 20000 in
theorem dL_law_511 : decode cL_law 511 = .ok (.iload_n 3, 1) ∧ 511 + 1 = 512 := ⟨by decide +kernel, rfl⟩
set_option maxRecDepth 20000 in
theorem dL_law_512 : decode cL_law 512 = .ok (.iconst 4, 1) ∧ 512 + 1 = 513 := ⟨by decide +kernel, rfl⟩
set_option maxRecDepth 20000 in
theorem dL_law_513 : decode cL_law 513 = .ok (.iadd, 1) ∧ 513 + 1 = 514 := ⟨by decide +kernel, rfl⟩
set_option maxRecDepth 20000 in
theorem dL_law_514 : decode cL_law 514 = .ok (.iaload, 1) ∧ 514 + 1 = 515 := ⟨by decide +kernel, rfl⟩
set_option maxRecDepth 20000 in
theorem dL_law_515 : decode cL_law 515 = .ok (.aload_n 0, 1) ∧ 515 + 1 = 516 := ⟨by decide +kernel, rfl⟩
set_option maxRecDepth 20000 in
theorem dL_law_516 : decode cL_law 516 = .ok (.iload_n 3, 1) ∧ 516 + 1 = 517 := ⟨by decide +kernel, rfl⟩
set_option maxRecDepth 20000 in
theorem dL_law_517 : decode cL_law 517 = .ok (.iconst 5, 1) ∧ 517 + 1 = 518 := ⟨by decide +kernel, rfl⟩
set_option maxRecDepth 20000 in
theorem dL_law_518 : decode cL_law 518 = .ok (.iadd, 1) ∧ 518 + 1 = 519 := ⟨by decide +kernel, rfl⟩
set_option maxRecDepth 20000 in
theorem dL_law_519 : decode cL_law 519 = .ok (.iaload, 1) ∧ 519 + 1 = 520 := ⟨by decide +kernel, rfl⟩
set_option maxRecDepth 20000 in
theorem dL_law_520 : decode cL_law 520 = .ok (.invokevirtual 50, 3) ∧ 520 + 3 = 523 := ⟨by decide +kernel, rfl⟩
set_option maxRecDepth 20000 in
theorem dL_law_523 : decode cL_law 523 = .ok (.aload_n 2, 1) ∧ 523 + 1 = 524 := ⟨by decide +kernel, rfl⟩
set_option maxRecDepth 20000 in
theorem dL_law_524 : decode cL_law 524 = .ok (.aload_n 0, 1) ∧ 524 + 1 = 525 := ⟨by decide +kernel, rfl⟩
set_option maxRecDepth 20000 in
theorem dL_law_525 : decode cL_law 525 = .ok (.iload_n 3, 1) ∧ 525 + 1 = 526 := ⟨by decide +kernel, rfl⟩
set_option maxRecDepth 20000 in
theorem dL_law_526 : decode cL_law 526 = .ok (.iconst 1, 1) ∧ 526 + 1 = 527 := ⟨by decide +kernel, rfl⟩
set_option maxRecDepth 20000 in
theorem dL_law_527 : decode cL_law 527 = .ok (.iadd, 1) ∧ 527 + 1 = 528 := ⟨by decide +kernel, rfl⟩
set_option maxRecDepth 20000 in
theorem dL_law_528 : decode cL_law 528 = .ok (.iaload, 1) ∧ 528 + 1 = 529 := ⟨by decide +kernel, rfl⟩
set_option maxRecDepth 20000 in
theorem dL_law_529 : decode cL_law 529 = .ok (.aload_n 0, 1) ∧ 529 + 1 = 530 := ⟨by decide +kernel, rfl⟩
set_option maxRecDepth 20000 in
theorem dL_law_530 : decode cL_law 530 = .ok (.iload_n 3, 1) ∧ 530 + 1 = 531 := ⟨by decide +kernel, rfl⟩
set_option maxRecDepth 20000 in
theorem dL_law_531 : decode cL_law 531 = .ok (.iconst 2, 1) ∧ 531 + 1 = 532 := ⟨by decide +kernel, rfl⟩
set_option maxRecDepth 20000 in
theorem dL_law_532 : decode cL_law 532 = .ok (.iadd, 1) ∧ 532 + 1 = 533 := ⟨by decide +kernel, rfl⟩
set_option maxRecDepth 20000 in
theorem dL_law_533 : decode cL_law 533 = .ok (.iaload, 1) ∧ 533 + 1 = 534 := ⟨by decide +kernel, rfl⟩
set_option maxRecDepth 20000 in
theorem dL_law_534 : decode cL_law 534 = .ok (.aload_n 0, 1) ∧ 534 + 1 = 535 := ⟨by decide +kernel, rfl⟩
set_option maxRecDepth 20000 in
theorem dL_law_535 : decode cL_law 535 = .ok (.iload_n 3, 1) ∧ 535 + 1 = 536 := ⟨by decide +kernel, rfl⟩
set_option maxRecDepth 20000 in
theorem dL_law_536 : decode cL_law 536 = .ok (.iconst 3, 1) ∧ 536 + 1 = 537 := ⟨by decide +kernel, rfl⟩
set_option maxRecDepth 20000 in
theorem dL_law_537 : decode cL_law 537 = .ok (.iadd, 1) ∧ 537 + 1 = 538 := ⟨by decide +kernel, rfl⟩
set_option maxRecDepth 20000 in
theorem dL_law_538 : decode cL_law 538 = .ok (.iaload, 1) ∧ 538 + 1 = 539 := ⟨by decide +kernel, rfl⟩
set_option maxRecDepth 20000 in
theorem dL_law_539 : decode cL_law 539 = .ok (.aload_n 0, 1) ∧ 539 + 1 = 540 := ⟨by decide +kernel, rfl⟩
set_option maxRecDepth 20000 in
theorem dL_law_540 : decode cL_law 540 = .ok (.iload_n 3, 1) ∧ 540 + 1 = 541 := ⟨by decide +kernel, rfl⟩
set_option maxRecDepth 20000 in
theorem dL_law_541 : decode cL_law 541 = .ok (.iconst 4, 1) ∧ 541 + 1 = 542 := ⟨by decide +kernel, rfl⟩
set_option maxRecDepth 20000 in
theorem dL_law_542 : decode cL_law 542 = .ok (.iadd, 1) ∧ 542 + 1 = 543 := ⟨by decide +kernel, rfl⟩
set_option maxRecDepth 20000 in
theorem dL_law_543 : decode cL_law 543 = .ok (.iaload, 1) ∧ 543 + 1 = 544 := ⟨by decide +kernel, rfl⟩
set_option maxRecDepth 20000 in
theorem dL_law_544 : decode cL_law 544 = .ok (.aload_n 0, 1) ∧ 544 + 1 = 545 := ⟨by decide +kernel, rfl⟩
set_option maxRecDepth 20000 in
theorem dL_law_545 : decode cL_law 545 = .ok (.iload_n 3, 1) ∧ 545 + 1 = 546 := ⟨by decide +kernel, rfl⟩
set_option maxRecDepth 20000 in
theorem dL_law_546 : decode cL_law 546 = .ok (.iconst 5, 1) ∧ 546 + 1 = 547 := ⟨by decide +kernel, rfl⟩
set_option maxRecDepth 20000 in
theorem dL_law_547 : decode cL_law 547 = .ok (.iadd, 1) ∧ 547 + 1 = 548 := ⟨by decide +kernel, rfl⟩
set_option maxRecDepth 20000 in
theorem dL_law_548 : decode cL_law 548 = .ok (.iaload, 1) ∧ 548 + 1 = 549 := ⟨by decide +kernel, rfl⟩
set_option maxRecDepth 20000 in
theorem dL_law_549 : decode cL_law 549 = .ok (.invokevirtual 53, 3) ∧ 549 + 3 = 552 := ⟨by decide +kernel, rfl⟩
set_option maxRecDepth 20000 in
theorem dL_law_552 : decode cL_law 552 = .ok (.if_icmp .eq 934, 3) ∧ 552 + 3 = 555 ∧ ((552 : Nat) : Int) + (934) = ((1486 : Nat) : Int) := ⟨by decide +kernel, rfl, by decide⟩
set_option maxRecDepth 20000 in
theorem dL_law_555 : decode cL_law 555 = .ok (.iconst 0, 1) ∧ 555 + 1 = 556 := ⟨by decide +kernel, rfl⟩
set_option maxRecDepth 20000 in
theorem dL_law_556 : decode cL_law 556 = .ok (.ireturn, 1) := by decide +kernel
set_option maxRecDepth 20000 in
theorem dL_law_557 : decode cL_law 557 = .ok (.aload_n 1, 1) ∧ 557 + 1 = 558 := ⟨by decide +kernel, rfl⟩
set_option maxRecDepth 20000 in
theorem dL_law_558 : decode cL_law 558 = .ok (.aload_n 0, 1) ∧ 558 + 1 = 559 := ⟨by decide +kernel, rfl⟩
set_option maxRecDepth 20000 in
theorem dL_law_559 : decode cL_law 559 = .ok (.iload_n 3, 1) ∧ 559 + 1 = 560 := ⟨by decide +kernel, rfl⟩
set_option maxRecDepth 20000 in
theorem dL_law_560 : decode cL_law 560 = .ok (.iconst 1, 1) ∧ 560 + 1 = 561 := ⟨by decide +kernel, rfl⟩
set_option maxRecDepth 20000 in
theorem dL_law_561 : decode cL_law 561 = .ok (.iadd, 1) ∧ 561 + 1 = 562 := ⟨by decide +kernel, rfl⟩
set_option maxRecDepth 20000 in
theorem dL_law_562 : decode cL_law 562 = .ok (.iaload, 1) ∧ 562 + 1 = 563 := ⟨by decide +kernel, rfl⟩
set_option maxRecDepth 20000 in
theorem dL_law_563 : decode cL_law 563 = .ok (.invokevirtual 54, 3) ∧ 563 + 3 = 566 := ⟨by decide +kernel, rfl⟩
set_option maxRecDepth 20000 in
theorem dL_law_566 : decode cL_law 566 = .ok (.aload_n 2, 1) ∧ 566 + 1 = 567 := ⟨by decide +kernel, rfl⟩
set_option maxRecDepth 20000 in
theorem dL_law_567 : decode cL_law 567 = .ok (.aload_n 0, 1) ∧ 567 + 1 = 568 := ⟨by decide +kernel, rfl⟩
set_option maxRecDepth 20000 in
theorem dL_law_568 : decode cL_law 568 = .ok (.iload_n 3, 1) ∧ 568 + 1 = 569 := ⟨by decide +kernel, rfl⟩
set_option maxRecDepth 20000 in
theorem dL_law_569 : decode cL_law 569 = .ok (.iconst 1, 1) ∧ 569 + 1 = 570 := ⟨by decide +kernel, rfl⟩
set_option maxRecDepth 20000 in
theorem dL_law_570 : decode cL_law 570 = .ok (.iadd, 1) ∧ 570 + 1 = 571 := ⟨by decide +kernel, rfl⟩
set_option maxRecDepth 20000 in
theorem dL_law_571 : decode cL_law 571 = .ok (.iaload, 1) ∧ 571 + 1 = 572 := ⟨by decide +kernel, rfl⟩
set_option maxRecDepth 20000 in
theorem dL_law_572 : decode cL_law 572 = .ok (.invokevirtual 57, 3) ∧ 572 + 3 = 575 := ⟨by decide +kernel, rfl⟩
set_option maxRecDepth 20000 in
theorem dL_law_575 : decode cL_law 575 = .ok (.if_icmp .eq 911, 3) ∧ 575 + 3 = 578 ∧ ((575 : Nat) : Int) + (911) = ((1486 : Nat) : Int) := ⟨by decide +kernel, rfl, by decide⟩
set_option maxRecDepth 20000 in
theorem dL_law_578 : decode cL_law 578 = .ok (.iconst 0, 1) ∧ 578 + 1 = 579 := ⟨by decide +kernel, rfl⟩
set_option maxRecDepth 20000 in
theorem dL_law_579 : decode cL_law 579 = .ok (.ireturn, 1) := by decide +kernel
set_option maxRecDepth 20000 in
theorem dL_law_580 : decode cL_law 580 = .ok (.aload_n 1, 1) ∧ 580 + 1 = 581 := ⟨by decide +kernel, rfl⟩
set_option maxRecDepth 20000 in
theorem dL_law_581 : decode cL_law 581 = .ok (.invokevirtual 58, 3) ∧ 581 + 3 = 584 := ⟨by decide +kernel, rfl⟩
set_option maxRecDepth 20000 in
theorem dL_law_584 : decode cL_law 584 = .ok (.aload_n 2, 1) ∧ 584 + 1 = 585 := ⟨by decide +kernel, rfl⟩
set_option maxRecDepth 20000 in
theorem dL_law_585 : decode cL_law 585 = .ok (.invokevirtual 61, 3) ∧ 585 + 3 = 588 := ⟨by decide +kernel, rfl⟩
set_option maxRecDepth 20000 in
theorem dL_law_588 : decode cL_law 588 = .ok (.if_icmp .eq 898, 3) ∧ 588 + 3 = 591 ∧ ((588 : Nat) : Int) + (898) = ((1486 : Nat) : Int) := ⟨by decide +kernel, rfl, by decide⟩
set_option maxRecDepth 20000 in
theorem dL_law_591 : decode cL_law 591 = .ok (.iconst 0, 1) ∧ 591 + 1 = 592 := ⟨by decide +kernel, rfl⟩
set_option maxRecDepth 20000 in
theorem dL_law_592 : decode cL_law 592 = .ok (.ireturn, 1) := by decide +kernel
set_option maxRecDepth 20000 in
theorem dL_law_593 : decode cL_law 593 = .ok (.aload_n 1, 1) ∧ 593 + 1 = 594 := ⟨by decide +kernel, rfl⟩
set_option maxRecDepth 20000 in
theorem dL_law_594 : decode cL_law 594 = .ok (.invokevirtual 62, 3) ∧ 594 + 3 = 597 := ⟨by decide +kernel, rfl⟩
set_option maxRecDepth 20000 in
theorem dL_law_597 : decode cL_law 597 = .ok (.aload_n 2, 1) ∧ 597 + 1 = 598 := ⟨by decide +kernel, rfl⟩
set_option maxRecDepth 20000 in
theorem dL_law_598 : decode cL_law 598 = .ok (.invokevirtual 65, 3) ∧ 598 + 3 = 601 := ⟨by decide +kernel, rfl⟩
set_option maxRecDepth 20000 in
theorem dL_law_601 : decode cL_law 601 = .ok (.if_icmp .eq 885, 3) ∧ 601 + 3 = 604 ∧ ((601 : Nat) : Int) + (885) = ((1486 : Nat) : Int) := ⟨by decide +kernel, rfl, by decide⟩
set_option maxRecDepth 20000 in
theorem dL_law_604 : decode cL_law 604 = .ok (.iconst 0, 1) ∧ 604 + 1 = 605 := ⟨by decide +kernel, rfl⟩
set_option maxRecDepth 20000 in
theorem dL_law_605 : decode cL_law 605 = .ok (.ireturn, 1) := by decide +kernel
set_option maxRecDepth 20000 in
theorem dL_law_606 : decode cL_law 606 = .ok (.aload_n 1, 1) ∧ 606 + 1 = 607 := ⟨by decide +kernel, rfl⟩
set_option maxRecDepth 20000 in
theorem dL_law_607 : decode cL_law 607 = .ok (.invokevirtual 66, 3) ∧ 607 + 3 = 610 := ⟨by decide +kernel, rfl⟩
set_option maxRecDepth 20000 in
theorem dL_law_610 : decode cL_law 610 = .ok (.aload_n 2, 1) ∧ 610 + 1 = 611 := ⟨by decide +kernel, rfl⟩
set_option maxRecDepth 20000 in
theorem dL_law_611 : decode cL_law 611 = .ok (.invokevirtual 69, 3) ∧ 611 + 3 = 614 := ⟨by decide +kernel, rfl⟩
set_option maxRecDepth 20000 in
theorem dL_law_614 : decode cL_law 614 = .ok (.if_icmp .eq 872, 3) ∧ 614 + 3 = 617 ∧ ((614 : Nat) : Int) + (872) = ((1486 : Nat) : Int) := ⟨by decide +kernel, rfl, by decide⟩
set_option maxRecDepth 20000 in
theorem dL_law_617 : decode cL_law 617 = .ok (.iconst 0, 1) ∧ 617 + 1 = 618 := ⟨by decide +kernel, rfl⟩
set_option maxRecDepth 20000 in
theorem dL_law_618 : decode cL_law 618 = .ok (.ireturn, 1) := by decide +kernel
set_option maxRecDepth 20000 in
theorem dL_law_619 : decode cL_law 619 = .ok (.aload_n 1, 1) ∧ 619 + 1 = 620 := ⟨by decide +kernel, rfl⟩
set_option maxRecDepth 20000 in
theorem dL_law_620 : decode cL_law 620 = .ok (.invokevirtual 70, 3) ∧ 620 + 3 = 623 := ⟨by decide +kernel, rfl⟩
set_option maxRecDepth 20000 in
theorem dL_law_623 : decode cL_law 623 = .ok (.aload_n 2, 1) ∧ 623 + 1 = 624 := ⟨by decide +kernel, rfl⟩
set_option maxRecDepth 20000 in
theorem dL_law_624 : decode cL_law 624 = .ok (.invokevirtual 73, 3) ∧ 624 + 3 = 627 := ⟨by decide +kernel, rfl⟩
set_option maxRecDepth 20000 in
theorem dL_law_627 : decode cL_law 627 = .ok (.if_icmp .eq 859, 3) ∧ 627 + 3 = 630 ∧ ((627 : Nat) : Int) + (859) = ((1486 : Nat) : Int) := ⟨by decide +kernel, rfl, by decide⟩
set_option maxRecDepth 20000 in
theorem dL_law_630 : decode cL_law 630 = .ok (.iconst 0, 1) ∧ 630 + 1 = 631 := ⟨by decide +kernel, rfl⟩
set_option maxRecDepth 20000 in
theorem dL_law_631 : decode cL_law 631 = .ok (.ireturn, 1) := by decide +kernel
set_option maxRecDepth 20000 in
theorem dL_law_632 : decode cL_law 632 = .ok (.aload_n 1, 1) ∧ 632 + 1 = 633 := ⟨by decide +kernel, rfl⟩
set_option maxRecDepth 20000 in
theorem dL_law_633 : decode cL_law 633 = .ok (.aload_n 0, 1) ∧ 633 + 1 = 634 := ⟨by decide +kernel, rfl⟩
set_option maxRecDepth 20000 in
theorem dL_law_634 : decode cL_law 634 = .ok (.iload_n 3, 1) ∧ 634 + 1 = 635 := ⟨by decide +kernel, rfl⟩
set_option maxRecDepth 20000 in
theorem dL_law_635 : decode cL_law 635 = .ok (.iconst 1, 1) ∧ 635 + 1 = 636 := ⟨by decide +kernel, rfl⟩
set_option maxRecDepth 20000 in
theorem dL_law_636 : decode cL_law 636 = .ok (.iadd, 1) ∧ 636 + 1 = 637 := ⟨by decide +kernel, rfl⟩
set_option maxRecDepth 20000 in
theorem dL_law_637 : decode cL_law 637 = .ok (.iaload, 1) ∧ 637 + 1 = 638 := ⟨by decide +kernel, rfl⟩
set_option maxRecDepth 20000 in
theorem dL_law_638 : decode cL_law 638 = .ok (.invokevirtual 74, 3) ∧ 638 + 3 = 641 := ⟨by decide +kernel, rfl⟩
set_option maxRecDepth 20000 in
theorem dL_law_641 : decode cL_law 641 = .ok (.aload_n 2, 1) ∧ 641 + 1 = 642 := ⟨by decide +kernel, rfl⟩
set_option maxRecDepth 20000 in
theorem dL_law_642 : decode cL_law 642 = .ok (.aload_n 0, 1) ∧ 642 + 1 = 643 := ⟨by decide +kernel, rfl⟩
set_option maxRecDepth 20000 in
theorem dL_law_643 : decode cL_law 643 = .ok (.iload_n 3, 1) ∧ 643 + 1 = 644 := ⟨by decide +kernel, rfl⟩
set_option maxRecDepth 20000 in
theorem dL_law_644 : decode cL_law 644 = .ok (.iconst 1, 1) ∧ 644 + 1 = 645 := ⟨by decide +kernel, rfl⟩
set_option maxRecDepth 20000 in
theorem dL_law_645 : decode cL_law 645 = .ok (.iadd, 1) ∧ 645 + 1 = 646 := ⟨by decide +kernel, rfl⟩
set_option maxRecDepth 20000 in
theorem dL_law_646 : decode cL_law 646 = .ok (.iaload, 1) ∧ 646 + 1 = 647 := ⟨by decide +kernel, rfl⟩
set_option maxRecDepth 20000 in
theorem dL_law_647 : decode cL_law 647 = .ok (.invokevirtual 77, 3) ∧ 647 + 3 = 650 := ⟨by decide +kernel, rfl⟩
set_option maxRecDepth 20000 in
theorem dL_law_650 : decode cL_law 650 = .ok (.if_icmp .eq 836, 3) ∧ 650 + 3 = 653 ∧ ((650 : Nat) : Int) + (836) = ((1486 : Nat) : Int) := ⟨by decide +kernel, rfl, by decide⟩
set_option maxRecDepth 20000 in
theorem dL_law_653 : decode cL_law 653 = .ok (.iconst 0, 1) ∧ 653 + 1 = 654 := ⟨by decide +kernel, rfl⟩
set_option maxRecDepth 20000 in
theorem dL_law_654 : decode cL_law 654 = .ok (.ireturn, 1) := by decide +kernel
set_option maxRecDepth 20000 in
theorem dL_law_655 : decode cL_law 655 = .ok (.aload_n 1, 1) ∧ 655 + 1 = 656 := ⟨by decide +kernel, rfl⟩
set_option maxRecDepth 20000 in
theorem dL_law_656 : decode cL_law 656 = .ok (.aload_n 0, 1) ∧ 656 + 1 = 657 := ⟨by decide +kernel, rfl⟩
set_option maxRecDepth 20000 in
theorem dL_law_657 : decode cL_law 657 = .ok (.iload_n 3, 1) ∧ 657 + 1 = 658 := ⟨by decide +kernel, rfl⟩
set_option maxRecDepth 20000 in
theorem dL_law_658 : decode cL_law 658 = .ok (.iconst 1, 1) ∧ 658 + 1 = 659 := ⟨by decide +kernel, rfl⟩
set_option maxRecDepth 20000 in
theorem dL_law_659 : decode cL_law 659 = .ok (.iadd, 1) ∧ 659 + 1 = 660 := ⟨by decide +kernel, rfl⟩
set_option maxRecDepth 20000 in
theorem dL_law_660 : decode cL_law 660 = .ok (.iaload, 1) ∧ 660 + 1 = 661 := ⟨by decide +kernel, rfl⟩
set_option maxRecDepth 20000 in
theorem dL_law_661 : decode cL_law 661 = .ok (.aload_n 0, 1) ∧ 661 + 1 = 662 := ⟨by decide +kernel, rfl⟩
set_option maxRecDepth 20000 in
theorem dL_law_662 : decode cL_law 662 = .ok (.iload_n 3, 1) ∧ 662 + 1 = 663 := ⟨by decide +kernel, rfl⟩
set_option maxRecDepth 20000 in
theorem dL_law_663 : decode cL_law 663 = .ok (.iconst 2, 1) ∧ 663 + 1 = 664 := ⟨by decide +kernel, rfl⟩
set_option maxRecDepth 20000 in
theorem dL_law_664 : decode cL_law 664 = .ok (.iadd, 1) ∧ 664 + 1 = 665 := ⟨by decide +kernel, rfl⟩
set_option maxRecDepth 20000 in
theorem dL_law_665 : decode cL_law 665 = .ok (.iaload, 1) ∧ 665 + 1 = 666 := ⟨by decide +kernel, rfl⟩
set_option maxRecDepth 20000 in
theorem dL_law_666 : decode cL_law 666 = .ok (.aload_n 0, 1) ∧ 666 + 1 = 667 := ⟨by decide +kernel, rfl⟩
set_option maxRecDepth 20000 in
theorem dL_law_667 : decode cL_law 667 = .ok (.iload_n 3, 1) ∧ 667 + 1 = 668 := ⟨by decide +kernel, rfl⟩
set_option maxRecDepth 20000 in
theorem dL_law_668 : decode cL_law 668 = .ok (.iconst 3, 1) ∧ 668 + 1 = 669 := ⟨by decide +kernel, rfl⟩
set_option maxRecDepth 20000 in
theorem dL_law_669 : decode cL_law 669 = .ok (.iadd, 1) ∧ 669 + 1 = 670 := ⟨by decide +kernel, rfl⟩
set_option maxRecDepth 20000 in
theorem dL_law_670 : decode cL_law 670 = .ok (.iaload, 1) ∧ 670 + 1 = 671 := ⟨by decide +kernel, rfl⟩
set_option maxRecDepth 20000 in
theorem dL_law_671 : decode cL_law 671 = .ok (.invokevirtual 78, 3) ∧ 671 + 3 = 674 := ⟨by decide +kernel, rfl⟩
set_option maxRecDepth 20000 in
theorem dL_law_674 : decode cL_law 674 = .ok (.aload_n 2, 1) ∧ 674 + 1 = 675 := ⟨by decide +kernel, rfl⟩
set_option maxRecDepth 20000 in
theorem dL_law_675 : decode cL_law 675 = .ok (.aload_n 0, 1) ∧ 675 + 1 = 676 := ⟨by decide +kernel, rfl⟩
set_option maxRecDepth 20000 in
theorem dL_law_676 : decode cL_law 676 = .ok (.iload_n 3, 1) ∧ 676 + 1 = 677 := ⟨by decide +kernel, rfl⟩
set_option maxRecDepth 20000 in
theorem dL_law_677 : decode cL_law 677 = .ok (.iconst 1, 1) ∧ 677 + 1 = 678 := ⟨by decide +kernel, rfl⟩
set_option maxRecDepth 20000 in
theorem dL_law_678 : decode cL_law 678 = .ok (.iadd, 1) ∧ 678 + 1 = 679 := ⟨by decide +kernel, rfl⟩
set_option maxRecDepth 20000 in
theorem dL_law_679 : decode cL_law 679 = .ok (.iaload, 1) ∧ 679 + 1 = 680 := ⟨by decide +kernel, rfl⟩
set_option maxRecDepth 20000 in
theorem dL_law_680 : decode cL_law 680 = .ok (.aload_n 0, 1) ∧ 680 + 1 = 681 := ⟨by decide +kernel, rfl⟩
set_option maxRecDepth 20000 in
theorem dL_law_681 : decode cL_law 681 = .ok (.iload_n 3, 1) ∧ 681 + 1 = 682 := ⟨by decide +kernel, rfl⟩
set_option maxRecDepth 20000 in
theorem dL_law_682 : decode cL_law 682 = .ok (.iconst 2, 1) ∧ 682 + 1 = 683 := ⟨by decide +kernel, rfl⟩
set_option maxRecDepth 20000 in
theorem dL_law_683 : decode cL_law 683 = .ok (.iadd, 1) ∧ 683 + 1 = 684 := ⟨by decide +kernel, rfl⟩
set_option maxRecDepth 20000 in
theorem dL_law_684 : decode cL_law 684 = .ok (.iaload, 1) ∧ 684 + 1 = 685 := ⟨by decide +kernel, rfl⟩
set_option maxRecDepth 20000 in
theorem dL_law_685 : decode cL_law 685 = .ok (.aload_n 0, 1) ∧ 685 + 1 = 686 := ⟨by decide +kernel, rfl⟩
set_option maxRecDepth 20000 in
theorem dL_law_686 : decode cL_law 686 = .ok (.iload_n 3, 1) ∧ 686 + 1 = 687 := ⟨by decide +kernel, rfl⟩
set_option maxRecDepth 20000 in
theorem dL_law_687 : decode cL_law 687 = .ok (.iconst 3, 1) ∧ 687 + 1 = 688 := ⟨by decide +kernel, rfl⟩
set_option maxRecDepth 20000 in
theorem dL_law_688 : decode cL_law 688 = .ok (.iadd, 1) ∧ 688 + 1 = 689 := ⟨by decide +kernel, rfl⟩
set_option maxRecDepth 20000 in
theorem dL_law_689 : decode cL_law 689 = .ok (.iaload, 1) ∧ 689 + 1 = 690 := ⟨by decide +kernel, rfl⟩
set_option maxRecDepth 20000 in
theorem dL_law_690 : decode cL_law 690 = .ok (.invokevirtual 81, 3) ∧ 690 + 3 = 693 := ⟨by decide +kernel, rfl⟩
set_option maxRecDepth 20000 in
theorem dL_law_693 : decode cL_law 693 = .ok (.if_icmp .eq 793, 3) ∧ 693 + 3 = 696 ∧ ((693 : Nat) : Int) + (793) = ((1486 : Nat) : Int) := ⟨by decide +kernel, rfl, by decide⟩
set_option maxRecDepth 20000 in
theorem dL_law_696 : decode cL_law 696 = .ok (.iconst 0, 1) ∧ 696 + 1 = 697 := ⟨by decide +kernel, rfl⟩
set_option maxRecDepth 20000 in
theorem dL_law_697 : decode cL_law 697 = .ok (.ireturn, 1) := by decide +kernel
set_option maxRecDepth 20000 in
theorem dL_law_698 : decode cL_law 698 = .ok (.aload_n 1, 1) ∧ 698 + 1 = 699 := ⟨by decide +kernel, rfl⟩
set_option maxRecDepth 20000 in
theorem dL_law_699 : decode cL_law 699 = .ok (.aload_n 0, 1) ∧ 699 + 1 = 700 := ⟨by decide +kernel, rfl⟩
set_option maxRecDepth 20000 in
theorem dL_law_700 : decode cL_law 700 = .ok (.iload_n 3, 1) ∧ 700 + 1 = 701 := ⟨by decide +kernel, rfl⟩
set_option maxRecDepth 20000 in
theorem dL_law_701 : decode cL_law 701 = .ok (.iconst 1, 1) ∧ 701 + 1 = 702 := ⟨by decide +kernel, rfl⟩
set_option maxRecDepth 20000 in
theorem dL_law_702 : decode cL_law 702 = .ok (.iadd, 1) ∧ 702 + 1 = 703 := ⟨by decide +kernel, rfl⟩
set_option maxRecDepth 20000 in
theorem dL_law_703 : decode cL_law 703 = .ok (.iaload, 1) ∧ 703 + 1 = 704 := ⟨by decide +kernel, rfl⟩
set_option maxRecDepth 20000 in
theorem dL_law_704 : decode cL_law 704 = .ok (.aload_n 0, 1) ∧ 704 + 1 = 705 := ⟨by decide +kernel, rfl⟩
set_option maxRecDepth 20000 in
theorem dL_law_705 : decode cL_law 705 = .ok (.iload_n 3, 1) ∧ 705 + 1 = 706 := ⟨by decide +kernel, rfl⟩
set_option maxRecDepth 20000 in
theorem dL_law_706 : decode cL_law 706 = .ok (.iconst 2, 1) ∧ 706 + 1 = 707 := ⟨by decide +kernel, rfl⟩
set_option maxRecDepth 20000 in
theorem dL_law_707 : decode cL_law 707 = .ok (.iadd, 1) ∧ 707 + 1 = 708 := ⟨by decide +kernel, rfl⟩
set_option maxRecDepth 20000 in
theorem dL_law_708 : decode cL_law 708 = .ok (.iaload, 1) ∧ 708 + 1 = 709 := ⟨by decide +kernel, rfl⟩
set_option maxRecDepth 20000 in
theorem dL_law_709 : decode cL_law 709 = .ok (.invokevirtual 82, 3) ∧ 709 + 3 = 712 := ⟨by decide +kernel, rfl⟩
set_option maxRecDepth 20000 in
theorem dL_law_712 : decode cL_law 712 = .ok (.aload_n 2, 1) ∧ 712 + 1 = 713 := ⟨by decide +kernel, rfl⟩
set_option maxRecDepth 20000 in
theorem dL_law_713 : decode cL_law 713 = .ok (.aload_n 0, 1) ∧ 713 + 1 = 714 := ⟨by decide +kernel, rfl⟩
set_option maxRecDepth 20000 in
theorem dL_law_714 : decode cL_law 714 = .ok (.iload_n 3, 1) ∧ 714 + 1 = 715 := ⟨by decide +kernel, rfl⟩
set_option maxRecDepth 20000 in
theorem dL_law_715 : decode cL_law 715 = .ok (.iconst 1, 1) ∧ 715 + 1 = 716 := ⟨by decide +kernel, rfl⟩
set_option maxRecDepth 20000 in
theorem dL_law_716 : decode cL_law 716 = .ok (.iadd, 1) ∧ 716 + 1 = 717 := ⟨by decide +kernel, rfl⟩
set_option maxRecDepth 20000 in
theorem dL_law_717 : decode cL_law 717 = .ok (.iaload, 1) ∧ 717 + 1 = 718 := ⟨by decide +kernel, rfl⟩
set_option maxRecDepth 20000 in
theorem dL_law_718 : decode cL_law 718 = .ok (.aload_n 0, 1) ∧ 718 + 1 = 719 := ⟨by decide +kernel, rfl⟩
set_option maxRecDepth 20000 in
theorem dL_law_719 : decode cL_law 719 = .ok (.iload_n 3, 1) ∧ 719 + 1 = 720 := ⟨by decide +kernel, rfl⟩
set_option maxRecDepth 20000 in
theorem dL_law_720 : decode cL_law 720 = .ok (.iconst 2, 1) ∧ 720 + 1 = 721 := ⟨by decide +kernel, rfl⟩
set_option maxRecDepth 20000 in
theorem dL_law_721 : decode cL_law 721 = .ok (.iadd, 1) ∧ 721 + 1 = 722 := ⟨by decide +kernel, rfl⟩
set_option maxRecDepth 20000 in
theorem dL_law_722 : decode cL_law 722 = .ok (.iaload, 1) ∧ 722 + 1 = 723 := ⟨by decide +kernel, rfl⟩
set_option maxRecDepth 20000 in
theorem dL_law_723 : decode cL_law 723 = .ok (.invokevirtual 85, 3) ∧ 723 + 3 = 726 := ⟨by decide +kernel, rfl⟩
set_option maxRecDepth 20000 in
theorem dL_law_726 : decode cL_law 726 = .ok (.if_icmp .eq 760, 3) ∧ 726 + 3 = 729 ∧ ((726 : Nat) : Int) + (760) = ((1486 : Nat) : Int) := ⟨by decide +kernel, rfl, by decide⟩
set_option maxRecDepth 20000 in
theorem dL_law_729 : decode cL_law 729 = .ok (.iconst 0, 1) ∧ 729 + 1 = 730 := ⟨by decide +kernel, rfl⟩
set_option maxRecDepth 20000 in
theorem dL_law_730 : decode cL_law 730 = .ok (.ireturn, 1) := by decide +kernel
set_option maxRecDepth 20000 in
theorem dL_law_731 : decode cL_law 731 = .ok (.aload_n 1, 1) ∧ 731 + 1 = 732 := ⟨by decide +kernel, rfl⟩
set_option maxRecDepth 20000 in
theorem dL_law_732 : decode cL_law 732 = .ok (.aload_n 0, 1) ∧ 732 + 1 = 733 := ⟨by decide +kernel, rfl⟩
set_option maxRecDepth 20000 in
theorem dL_law_733 : decode cL_law 733 = .ok (.iload_n 3, 1) ∧ 733 + 1 = 734 := ⟨by decide +kernel, rfl⟩
set_option maxRecDepth 20000 in
theorem dL_law_734 : decode cL_law 734 = .ok (.iconst 1, 1) ∧ 734 + 1 = 735 := ⟨by decide +kernel, rfl⟩
set_option maxRecDepth 20000 in
theorem dL_law_735 : decode cL_law 735 = .ok (.iadd, 1) ∧ 735 + 1 = 736 := ⟨by decide +kernel, rfl⟩
set_option maxRecDepth 20000 in
theorem dL_law_736 : decode cL_law 736 = .ok (.iaload, 1) ∧ 736 + 1 = 737 := ⟨by decide +kernel, rfl⟩
set_option maxRecDepth 20000 in
theorem dL_law_737 : decode cL_law 737 = .ok (.invokevirtual 86, 3) ∧ 737 + 3 = 740 := ⟨by decide +kernel, rfl⟩
set_option maxRecDepth 20000 in
theorem dL_law_740 : decode cL_law 740 = .ok (.aload_n 2, 1) ∧ 740 + 1 = 741 := ⟨by decide +kernel, rfl⟩
set_option maxRecDepth 20000 in
theorem dL_law_741 : decode cL_law 741 = .ok (.aload_n 0, 1) ∧ 741 + 1 = 742 := ⟨by decide +kernel, rfl⟩
set_option maxRecDepth 20000 in
theorem dL_law_742 : decode cL_law 742 = .ok (.iload_n 3, 1) ∧ 742 + 1 = 743 := ⟨by decide +kernel, rfl⟩
set_option maxRecDepth 20000 in
theorem dL_law_743 : decode cL_law 743 = .ok (.iconst 1, 1) ∧ 743 + 1 = 744 := ⟨by decide +kernel, rfl⟩
set_option maxRecDepth 20000 in
theorem dL_law_744 : decode cL_law 744 = .ok (.iadd, 1) ∧ 744 + 1 = 745 := ⟨by decide +kernel, rfl⟩
set_option maxRecDepth 20000 in
theorem dL_law_745 : decode cL_law 745 = .ok (.iaload, 1) ∧ 745 + 1 = 746 := ⟨by decide +kernel, rfl⟩
set_option maxRecDepth 20000 in
theorem dL_law_746 : decode cL_law 746 = .ok (.invokevirtual 90, 3) ∧ 746 + 3 = 749 := ⟨by decide +kernel, rfl⟩
set_option maxRecDepth 20000 in
theorem dL_law_749 : decode cL_law 749 = .ok (.lcmp, 1) ∧ 749 + 1 = 750 := ⟨by decide +kernel, rfl⟩
set_option maxRecDepth 20000 in
theorem dL_law_750 : decode cL_law 750 = .ok (.ifCond .eq 736, 3) ∧ 750 + 3 = 753 ∧ ((750 : Nat) : Int) + (736) = ((1486 : Nat) : Int) := ⟨by decide +kernel, rfl, by decide⟩
set_option maxRecDepth 20000 in
theorem dL_law_753 : decode cL_law 753 = .ok (.iconst 0, 1) ∧ 753 + 1 = 754 := ⟨by decide +kernel, rfl⟩
set_option maxRecDepth 20000 in
theorem dL_law_754 : decode cL_law 754 = .ok (.ireturn, 1) := by decide +kernel
set_option maxRecDepth 20000 in
theorem dL_law_755 : decode cL_law 755 = .ok (.aload_n 1, 1) ∧ 755 + 1 = 756 := ⟨by decide +kernel, rfl⟩
set_option maxRecDepth 20000 in
theorem dL_law_756 : decode cL_law 756 = .ok (.aload_n 0, 1) ∧ 756 + 1 = 757 := ⟨by decide +kernel, rfl⟩
set_option maxRecDepth 20000 in
theorem dL_law_757 : decode cL_law 757 = .ok (.iload_n 3, 1) ∧ 757 + 1 = 758 := ⟨by decide +kernel, rfl⟩
set_option maxRecDepth 20000 in
theorem dL_law_758 : decode cL_law 758 = .ok (.iconst 1, 1) ∧ 758 + 1 = 759 := ⟨by decide +kernel, rfl⟩
set_option maxRecDepth 20000 in
theorem dL_law_759 : decode cL_law 759 = .ok (.iadd, 1) ∧ 759 + 1 = 760 := ⟨by decide +kernel, rfl⟩
set_option maxRecDepth 20000 in
theorem dL_law_760 : decode cL_law 760 = .ok (.iaload, 1) ∧ 760 + 1 = 761 := ⟨by decide +kernel, rfl⟩
set_option maxRecDepth 20000 in
theorem dL_law_761 : decode cL_law 761 = .ok (.invokevirtual 91, 3) ∧ 761 + 3 = 764 := ⟨by decide +kernel, rfl⟩
set_option maxRecDepth 20000 in
theorem dL_law_764 : decode cL_law 764 = .ok (.aload_n 2, 1) ∧ 764 + 1 = 765 := ⟨by decide +kernel, rfl⟩
set_option maxRecDepth 20000 in
theorem dL_law_765 : decode cL_law 765 = .ok (.aload_n 0, 1) ∧ 765 + 1 = 766 := ⟨by decide +kernel, rfl⟩
set_option maxRecDepth 20000 in
theorem dL_law_766 : decode cL_law 766 = .ok (.iload_n 3, 1) ∧ 766 + 1 = 767 := ⟨by decide +kernel, rfl⟩
set_option maxRecDepth 20000 in
theorem dL_law_767 : decode cL_law 767 = .ok (.iconst 1, 1) ∧ 767 + 1 = 768 := ⟨by decide +kernel, rfl⟩
set_option maxRecDepth 20000 in
theorem dL_law_768 : decode cL_law 768 = .ok (.iadd, 1) ∧ 768 + 1 = 769 := ⟨by decide +kernel, rfl⟩
set_option maxRecDepth 20000 in
theorem dL_law_769 : decode cL_law 769 = .ok (.iaload, 1) ∧ 769 + 1 = 770 := ⟨by decide +kernel, rfl⟩
set_option maxRecDepth 20000 in
theorem dL_law_770 : decode cL_law 770 = .ok (.invokevirtual 94, 3) ∧ 770 + 3 = 773 := ⟨by decide +kernel, rfl⟩
set_option maxRecDepth 20000 in
theorem dL_law_773 : decode cL_law 773 = .ok (.lcmp, 1) ∧ 773 + 1 = 774 := ⟨by decide +kernel, rfl⟩
set_option maxRecDepth 20000 in
theorem dL_law_774 : decode cL_law 774 = .ok (.ifCond .eq 712, 3) ∧ 774 + 3 = 777 ∧ ((774 : Nat) : Int) + (712) = ((1486 : Nat) : Int) := ⟨by decide +kernel, rfl, by decide⟩
set_option maxRecDepth 20000 in
theorem dL_law_777 : decode cL_law 777 = .ok (.iconst 0, 1) ∧ 777 + 1 = 778 := ⟨by decide +kernel, rfl⟩
set_option maxRecDepth 20000 in
theorem dL_law_778 : decode cL_law 778 = .ok (.ireturn, 1) := by decide +kernel
set_option maxRecDepth 20000 in
theorem dL_law_779 : decode cL_law 779 = .ok (.aload_n 1, 1) ∧ 779 + 1 = 780 := ⟨by decide +kernel, rfl⟩
set_option maxRecDepth 20000 in
theorem dL_law_780 : decode cL_law 780 = .ok (.aload_n 0, 1) ∧ 780 + 1 = 781 := ⟨by decide +kernel, rfl⟩
set_option maxRecDepth 20000 in
theorem dL_law_781 : decode cL_law 781 = .ok (.iload_n 3, 1) ∧ 781 + 1 = 782 := ⟨by decide +kernel, rfl⟩
set_option maxRecDepth 20000 in
theorem dL_law_782 : decode cL_law 782 = .ok (.iconst 1, 1) ∧ 782 + 1 = 783 := ⟨by decide +kernel, rfl⟩
set_option maxRecDepth 20000 in
theorem dL_law_783 : decode cL_law 783 = .ok (.iadd, 1) ∧ 783 + 1 = 784 := ⟨by decide +kernel, rfl⟩
set_option maxRecDepth 20000 in
theorem dL_law_784 : decode cL_law 784 = .ok (.iaload, 1) ∧ 784 + 1 = 785 := ⟨by decide +kernel, rfl⟩
set_option maxRecDepth 20000 in
theorem dL_law_785 : decode cL_law 785 = .ok (.aload_n 0, 1) ∧ 785 + 1 = 786 := ⟨by decide +kernel, rfl⟩
set_option maxRecDepth 20000 in
theorem dL_law_786 : decode cL_law 786 = .ok (.iload_n 3, 1) ∧ 786 + 1 = 787 := ⟨by decide +kernel, rfl⟩
set_option maxRecDepth 20000 in
theorem dL_law_787 : decode cL_law 787 = .ok (.iconst 2, 1) ∧ 787 + 1 = 788 := ⟨by decide +kernel, rfl⟩
set_option maxRecDepth 20000 in
theorem dL_law_788 : decode cL_law 788 = .ok (.iadd, 1) ∧ 788 + 1 = 789 := ⟨by decide +kernel, rfl⟩
set_option maxRecDepth 20000 in
theorem dL_law_789 : decode cL_law 789 = .ok (.iaload, 1) ∧ 789 + 1 = 790 := ⟨by decide +kernel, rfl⟩
set_option maxRecDepth 20000 in
theorem dL_law_790 : decode cL_law 790 = .ok (.invokevirtual 95, 3) ∧ 790 + 3 = 793 := ⟨by decide +kernel, rfl⟩
set_option maxRecDepth 20000 in
theorem dL_law_793 : decode cL_law 793 = .ok (.aload_n 2, 1) ∧ 793 + 1 = 794 := ⟨by decide +kernel, rfl⟩
set_option maxRecDepth 20000 in
theorem dL_law_794 : decode cL_law 794 = .ok (.aload_n 0, 1) ∧ 794 + 1 = 795 := ⟨by decide +kernel, rfl⟩
set_option maxRecDepth 20000 in
theorem dL_law_795 : decode cL_law 795 = .ok (.iload_n 3, 1) ∧ 795 + 1 = 796 := ⟨by decide +kernel, rfl⟩
set_option maxRecDepth 20000 in
theorem dL_law_796 : decode cL_law 796 = .ok (.iconst 1, 1) ∧ 796 + 1 = 797 := ⟨by decide +kernel, rfl⟩
set_option maxRecDepth 20000 in
theorem dL_law_797 : decode cL_law 797 = .ok (.iadd, 1) ∧ 797 + 1 = 798 := ⟨by decide +kernel, rfl⟩
set_option maxRecDepth 20000 in
theorem dL_law_798 : decode cL_law 798 = .ok (.iaload, 1) ∧ 798 + 1 = 799 := ⟨by decide +kernel, rfl⟩
set_option maxRecDepth 20000 in
theorem dL_law_799 : decode cL_law 799 = .ok (.aload_n 0, 1) ∧ 799 + 1 = 800 := ⟨by decide +kernel, rfl⟩
set_option maxRecDepth 20000 in
theorem dL_law_800 : decode cL_law 800 = .ok (.iload_n 3, 1) ∧ 800 + 1 = 801 := ⟨by decide +kernel, rfl⟩
set_option maxRecDepth 20000 in
theorem dL_law_801 : decode cL_law 801 = .ok (.iconst 2, 1) ∧ 801 + 1 = 802 := ⟨by decide +kernel, rfl⟩
set_option maxRecDepth 20000 in
theorem dL_law_802 : decode cL_law 802 = .ok (.iadd, 1) ∧ 802 + 1 = 803 := ⟨by decide +kernel, rfl⟩
set_option maxRecDepth 20000 in
theorem dL_law_803 : decode cL_law 803 = .ok (.iaload, 1) ∧ 803 + 1 = 804 := ⟨by decide +kernel, rfl⟩
set_option maxRecDepth 20000 in
theorem dL_law_804 : decode cL_law 804 = .ok (.invokevirtual 99, 3) ∧ 804 + 3 = 807 := ⟨by decide +kernel, rfl⟩
set_option maxRecDepth 20000 in
theorem dL_law_807 : decode cL_law 807 = .ok (.lcmp, 1) ∧ 807 + 1 = 808 := ⟨by decide +kernel, rfl⟩
set_option maxRecDepth 20000 in
theorem dL_law_808 : decode cL_law 808 = .ok (.ifCond .eq 678, 3) ∧ 808 + 3 = 811 ∧ ((808 : Nat) : Int) + (678) = ((1486 : Nat) : Int) := ⟨by decide +kernel, rfl, by decide⟩
set_option maxRecDepth 20000 in
theorem dL_law_811 : decode cL_law 811 = .ok (.iconst 0, 1) ∧ 811 + 1 = 812 := ⟨by decide +kernel, rfl⟩
set_option maxRecDepth 20000 in
theorem dL_law_812 : decode cL_law 812 = .ok (.ireturn, 1) := by decide +kernel
set_option maxRecDepth 20000 in
theorem dL_law_813 : decode cL_law 813 = .ok (.aload_n 1, 1) ∧ 813 + 1 = 814 := ⟨by decide +kernel, rfl⟩
set_option maxRecDepth 20000 in
theorem dL_law_814 : decode cL_law 814 = .ok (.aload_n 0, 1) ∧ 814 + 1 = 815 := ⟨by decide +kernel, rfl⟩
set_option maxRecDepth 20000 in
theorem dL_law_815 : decode cL_law 815 = .ok (.iload_n 3, 1) ∧ 815 + 1 = 816 := ⟨by decide +kernel, rfl⟩
set_option maxRecDepth 20000 in
theorem dL_law_816 : decode cL_law 816 = .ok (.iconst 1, 1) ∧ 816 + 1 = 817 := ⟨by decide +kernel, rfl⟩
set_option maxRecDepth 20000 in
theorem dL_law_817 : decode cL_law 817 = .ok (.iadd, 1) ∧ 817 + 1 = 818 := ⟨by decide +kernel, rfl⟩
set_option maxRecDepth 20000 in
theorem dL_law_818 : decode cL_law 818 = .ok (.iaload, 1) ∧ 818 + 1 = 819 := ⟨by decide +kernel, rfl⟩
set_option maxRecDepth 20000 in
theorem dL_law_819 : decode cL_law 819 = .ok (.aload_n 0, 1) ∧ 819 + 1 = 820 := ⟨by decide +kernel, rfl⟩
set_option maxRecDepth 20000 in
theorem dL_law_820 : decode cL_law 820 = .ok (.iload_n 3, 1) ∧ 820 + 1 = 821 := ⟨by decide +kernel, rfl⟩
set_option maxRecDepth 20000 in
theorem dL_law_821 : decode cL_law 821 = .ok (.iconst 2, 1) ∧ 821 + 1 = 822 := ⟨by decide +kernel, rfl⟩
set_option maxRecDepth 20000 in
theorem dL_law_822 : decode cL_law 822 = .ok (.iadd, 1) ∧ 822 + 1 = 823 := ⟨by decide +kernel, rfl⟩
set_option maxRecDepth 20000 in
theorem dL_law_823 : decode cL_law 823 = .ok (.iaload, 1) ∧ 823 + 1 = 824 := ⟨by decide +kernel, rfl⟩
set_option maxRecDepth 20000 in
theorem dL_law_824 : decode cL_law 824 = .ok (.aload_n 0, 1) ∧ 824 + 1 = 825 := ⟨by decide +kernel, rfl⟩
set_option maxRecDepth 20000 in
theorem dL_law_825 : decode cL_law 825 = .ok (.iload_n 3, 1) ∧ 825 + 1 = 826 := ⟨by decide +kernel, rfl⟩
set_option maxRecDepth 20000 in
theorem dL_law_826 : decode cL_law 826 = .ok (.iconst 3, 1) ∧ 826 + 1 = 827 := ⟨by decide +kernel, rfl⟩
set_option maxRecDepth 20000 in
theorem dL_law_827 : decode cL_law 827 = .ok (.iadd, 1) ∧ 827 + 1 = 828 := ⟨by decide +kernel, rfl⟩
set_option maxRecDepth 20000 in
theorem dL_law_828 : decode cL_law 828 = .ok (.iaload, 1) ∧ 828 + 1 = 829 := ⟨by decide +kernel, rfl⟩
set_option maxRecDepth 20000 in
theorem dL_law_829 : decode cL_law 829 = .ok (.invokevirtual 100, 3) ∧ 829 + 3 = 832 := ⟨by decide +kernel, rfl⟩
set_option maxRecDepth 20000 in
theorem dL_law_832 : decode cL_law 832 = .ok (.aload_n 2, 1) ∧ 832 + 1 = 833 := ⟨by decide +kernel, rfl⟩
set_option maxRecDepth 20000 in
theorem dL_law_833 : decode cL_law 833 = .ok (.aload_n 0, 1) ∧ 833 + 1 = 834 := ⟨by decide +kernel, rfl⟩
set_option maxRecDepth 20000 in
theorem dL_law_834 : decode cL_law 834 = .ok (.iload_n 3, 1) ∧ 834 + 1 = 835 := ⟨by decide +kernel, rfl⟩
set_option maxRecDepth 20000 in
theorem dL_law_835 : decode cL_law 835 = .ok (.iconst 1, 1) ∧ 835 + 1 = 836 := ⟨by decide +kernel, rfl⟩
set_option maxRecDepth 20000 in
theorem dL_law_836 : decode cL_law 836 = .ok (.iadd, 1) ∧ 836 + 1 = 837 := ⟨by decide +kernel, rfl⟩
set_option maxRecDepth 20000 in
theorem dL_law_837 : decode cL_law 837 = .ok (.iaload, 1) ∧ 837 + 1 = 838 := ⟨by decide +kernel, rfl⟩
set_option maxRecDepth 20000 in
theorem dL_law_838 : decode cL_law 838 = .ok (.aload_n 0, 1) ∧ 838 + 1 = 839 := ⟨by decide +kernel, rfl⟩
set_option maxRecDepth 20000 in
theorem dL_law_839 : decode cL_law 839 = .ok (.iload_n 3, 1) ∧ 839 + 1 = 840 := ⟨by decide +kernel, rfl⟩
set_option maxRecDepth 20000 in
theorem dL_law_840 : decode cL_law 840 = .ok (.iconst 2, 1) ∧ 840 + 1 = 841 := ⟨by decide +kernel, rfl⟩
set_option maxRecDepth 20000 in
theorem dL_law_841 : decode cL_law 841 = .ok (.iadd, 1) ∧ 841 + 1 = 842 := ⟨by decide +kernel, rfl⟩
set_option maxRecDepth 20000 in
theorem dL_law_842 : decode cL_law 842 = .ok (.iaload, 1) ∧ 842 + 1 = 843 := ⟨by decide +kernel, rfl⟩
set_option maxRecDepth 20000 in
theorem dL_law_843 : decode cL_law 843 = .ok (.aload_n 0, 1) ∧ 843 + 1 = 844 := ⟨by decide +kernel, rfl⟩
set_option maxRecDepth 20000 in
theorem dL_law_844 : decode cL_law 844 = .ok (.iload_n 3, 1) ∧ 844 + 1 = 845 := ⟨by decide +kernel, rfl⟩
set_option maxRecDepth 20000 in
theorem dL_law_845 : decode cL_law 845 = .ok (.iconst 3, 1) ∧ 845 + 1 = 846 := ⟨by decide +kernel, rfl⟩
set_option maxRecDepth 20000 in
theorem dL_law_846 : decode cL_law 846 = .ok (.iadd, 1) ∧ 846 + 1 = 847 := ⟨by decide +kernel, rfl⟩
set_option maxRecDepth 20000 in
theorem dL_law_847 : decode cL_law 847 = .ok (.iaload, 1) ∧ 847 + 1 = 848 := ⟨by decide +kernel, rfl⟩
set_option maxRecDepth 20000 in
theorem dL_law_848 : decode cL_law 848 = .ok (.invokevirtual 103, 3) ∧ 848 + 3 = 851 := ⟨by decide +kernel, rfl⟩
set_option maxRecDepth 20000 in
theorem dL_law_851 : decode cL_law 851 = .ok (.if_icmp .eq 635, 3) ∧ 851 + 3 = 854 ∧ ((851 : Nat) : Int) + (635) = ((1486 : Nat) : Int) := ⟨by decide +kernel, rfl, by decide⟩
set_option maxRecDepth 20000 in
theorem dL_law_854 : decode cL_law 854 = .ok (.iconst 0, 1) ∧ 854 + 1 = 855 := ⟨by decide +kernel, rfl⟩
set_option maxRecDepth 20000 in
theorem dL_law_855 : decode cL_law 855 = .ok (.ireturn, 1) := by decide +kernel
set_option maxRecDepth 20000 in
theorem dL_law_856 : decode cL_law 856 = .ok (.aload_n 1, 1) ∧ 856 + 1 = 857 := ⟨by decide +kernel, rfl⟩
set_option maxRecDepth 20000 in
theorem dL_law_857 : decode cL_law 857 = .ok (.aload_n 0, 1) ∧ 857 + 1 = 858 := ⟨by decide +kernel, rfl⟩
set_option maxRecDepth 20000 in
theorem dL_law_858 : decode cL_law 858 = .ok (.iload_n 3, 1) ∧ 858 + 1 = 859 := ⟨by decide +kernel, rfl⟩
set_option maxRecDepth 20000 in
theorem dL_law_859 : decode cL_law 859 = .ok (.iconst 1, 1) ∧ 859 + 1 = 860 := ⟨by decide +kernel, rfl⟩
set_option maxRecDepth 20000 in
theorem dL_law_860 : decode cL_law 860 = .ok (.iadd, 1) ∧ 860 + 1 = 861 := ⟨by decide +kernel, rfl⟩
set_option maxRecDepth 20000 in
theorem dL_law_861 : decode cL_law 861 = .ok (.iaload, 1) ∧ 861 + 1 = 862 := ⟨by decide +kernel, rfl⟩
set_option maxRecDepth 20000 in
theorem dL_law_862 : decode cL_law 862 = .ok (.aload_n 0, 1) ∧ 862 + 1 = 863 := ⟨by decide +kernel, rfl⟩
set_option maxRecDepth 20000 in
theorem dL_law_863 : decode cL_law 863 = .ok (.iload_n 3, 1) ∧ 863 + 1 = 864 := ⟨by decide +kernel, rfl⟩
set_option maxRecDepth 20000 in
theorem dL_law_864 : decode cL_law 864 = .ok (.iconst 2, 1) ∧ 864 + 1 = 865 := ⟨by decide +kernel, rfl⟩
set_option maxRecDepth 20000 in
theorem dL_law_865 : decode cL_law 865 = .ok (.iadd, 1) ∧ 865 + 1 = 866 := ⟨by decide +kernel, rfl⟩
set_option maxRecDepth 20000 in
theorem dL_law_866 : decode cL_law 866 = .ok (.iaload, 1) ∧ 866 + 1 = 867 := ⟨by decide +kernel, rfl⟩
set_option maxRecDepth 20000 in
theorem dL_law_867 : decode cL_law 867 = .ok (.invokevirtual 104, 3) ∧ 867 + 3 = 870 := ⟨by decide +kernel, rfl⟩
set_option maxRecDepth 20000 in
theorem dL_law_870 : decode cL_law 870 = .ok (.aload_n 2, 1) ∧ 870 + 1 = 871 := ⟨by decide +kernel, rfl⟩
set_option maxRecDepth 20000 in
theorem dL_law_871 : decode cL_law 871 = .ok (.aload_n 0, 1) ∧ 871 + 1 = 872 := ⟨by decide +kernel, rfl⟩
set_option maxRecDepth 20000 in
theorem dL_law_872 : decode cL_law 872 = .ok (.iload_n 3, 1) ∧ 872 + 1 = 873 := ⟨by decide +kernel, rfl⟩
set_option maxRecDepth 20000 in
theorem dL_law_873 : decode cL_law 873 = .ok (.iconst 1, 1) ∧ 873 + 1 = 874 := ⟨by decide +kernel, rfl⟩
set_option maxRecDepth 20000 in
theorem dL_law_874 : decode cL_law 874 = .ok (.iadd, 1) ∧ 874 + 1 = 875 := ⟨by decide +kernel, rfl⟩
set_option maxRecDepth 20000 in
theorem dL_law_875 : decode cL_law 875 = .ok (.iaload, 1) ∧ 875 + 1 = 876 := ⟨by decide +kernel, rfl⟩
set_option maxRecDepth 20000 in
theorem dL_law_876 : decode cL_law 876 = .ok (.aload_n 0, 1) ∧ 876 + 1 = 877 := ⟨by decide +kernel, rfl⟩
set_option maxRecDepth 20000 in
theorem dL_law_877 : decode cL_law 877 = .ok (.iload_n 3, 1) ∧ 877 + 1 = 878 := ⟨by decide +kernel, rfl⟩
set_option maxRecDepth 20000 in
theorem dL_law_878 : decode cL_law 878 = .ok (.iconst 2, 1) ∧ 878 + 1 = 879 := ⟨by decide +kernel, rfl⟩
set_option maxRecDepth 20000 in
theorem dL_law_879 : decode cL_law 879 = .ok (.iadd, 1) ∧ 879 + 1 = 880 := ⟨by decide +kernel, rfl⟩
set_option maxRecDepth 20000 in
theorem dL_law_880 : decode cL_law 880 = .ok (.iaload, 1) ∧ 880 + 1 = 881 := ⟨by decide +kernel, rfl⟩
set_option maxRecDepth 20000 in
theorem dL_law_881 : decode cL_law 881 = .ok (.invokevirtual 107, 3) ∧ 881 + 3 = 884 := ⟨by decide +kernel, rfl⟩
set_option maxRecDepth 20000 in
theorem dL_law_884 : decode cL_law 884 = .ok (.if_icmp .eq 602, 3) ∧ 884 + 3 = 887 ∧ ((884 : Nat) : Int) + (602) = ((1486 : Nat) : Int) := ⟨by decide +kernel, rfl, by decide⟩
set_option maxRecDepth 20000 in
theorem dL_law_887 : decode cL_law 887 = .ok (.iconst 0, 1) ∧ 887 + 1 = 888 := ⟨by decide +kernel, rfl⟩
set_option maxRecDepth 20000 in
theorem dL_law_888 : decode cL_law 888 = .ok (.ireturn, 1) := by decide +kernel
set_option maxRecDepth 20000 in
theorem dL_law_889 : decode cL_law 889 = .ok (.aload_n 1, 1) ∧ 889 + 1 = 890 := ⟨by decide +kernel, rfl⟩
set_option maxRecDepth 20000 in
theorem dL_law_890 : decode cL_law 890 = .ok (.aload_n 0, 1) ∧ 890 + 1 = 891 := ⟨by decide +kernel, rfl⟩
set_option maxRecDepth 20000 in
theorem dL_law_891 : decode cL_law 891 = .ok (.iload_n 3, 1) ∧ 891 + 1 = 892 := ⟨by decide +kernel, rfl⟩
set_option maxRecDepth 20000 in
theorem dL_law_892 : decode cL_law 892 = .ok (.iconst 1, 1) ∧ 892 + 1 = 893 := ⟨by decide +kernel, rfl⟩
set_option maxRecDepth 20000 in
theorem dL_law_893 : decode cL_law 893 = .ok (.iadd, 1) ∧ 893 + 1 = 894 := ⟨by decide +kernel, rfl⟩
set_option maxRecDepth 20000 in
theorem dL_law_894 : decode cL_law 894 = .ok (.iaload, 1) ∧ 894 + 1 = 895 := ⟨by decide +kernel, rfl⟩
set_option maxRecDepth 20000 in
theorem dL_law_895 : decode cL_law 895 = .ok (.invokevirtual 108, 3) ∧ 895 + 3 = 898 := ⟨by decide +kernel, rfl⟩
set_option maxRecDepth 20000 in
theorem dL_law_898 : decode cL_law 898 = .ok (.aload_n 2, 1) ∧ 898 + 1 = 899 := ⟨by decide +kernel, rfl⟩
set_option maxRecDepth 20000 in
theorem dL_law_899 : decode cL_law 899 = .ok (.aload_n 0, 1) ∧ 899 + 1 = 900 := ⟨by decide +kernel, rfl⟩
set_option maxRecDepth 20000 in
theorem dL_law_900 : decode cL_law 900 = .ok (.iload_n 3, 1) ∧ 900 + 1 = 901 := ⟨by decide +kernel, rfl⟩
set_option maxRecDepth 20000 in
theorem dL_law_901 : decode cL_law 901 = .ok (.iconst 1, 1) ∧ 901 + 1 = 902 := ⟨by decide +kernel, rfl⟩
set_option maxRecDepth 20000 in
theorem dL_law_902 : decode cL_law 902 = .ok (.iadd, 1) ∧ 902 + 1 = 903 := ⟨by decide +kernel, rfl⟩
set_option maxRecDepth 20000 in
theorem dL_law_903 : decode cL_law 903 = .ok (.iaload, 1) ∧ 903 + 1 = 904 := ⟨by decide +kernel, rfl⟩
set_option maxRecDepth 20000 in
theorem dL_law_904 : decode cL_law 904 = .ok (.invokevirtual 111, 3) ∧ 904 + 3 = 907 := ⟨by decide +kernel, rfl⟩
set_option maxRecDepth 20000 in
theorem dL_law_907 : decode cL_law 907 = .ok (.lcmp, 1) ∧ 907 + 1 = 908 := ⟨by decide +kernel, rfl⟩
set_option maxRecDepth 20000 in
theorem dL_law_908 : decode cL_law 908 = .ok (.ifCond .eq 578, 3) ∧ 908 + 3 = 911 ∧ ((908 : Nat) : Int) + (578) = ((1486 : Nat) : Int) := ⟨by decide +kernel, rfl, by decide⟩
set_option maxRecDepth 20000 in
theorem dL_law_911 : decode cL_law 911 = .ok (.iconst 0, 1) ∧ 911 + 1 = 912 := ⟨by decide +kernel, rfl⟩
set_option maxRecDepth 20000 in
theorem dL_law_912 : decode cL_law 912 = .ok (.ireturn, 1) := by decide +kernel
set_option maxRecDepth 20000 in
theorem dL_law_913 : decode cL_law 913 = .ok (.aload_n 1, 1) ∧ 913 + 1 = 914 := ⟨by decide +kernel, rfl⟩
set_option maxRecDepth 20000 in
theorem dL_law_914 : decode cL_law 914 = .ok (.aload_n 0, 1) ∧ 914 + 1 = 915 := ⟨by decide +kernel, rfl⟩
set_option maxRecDepth 20000 in
theorem dL_law_915 : decode cL_law 915 = .ok (.iload_n 3, 1) ∧ 915 + 1 = 916 := ⟨by decide +kernel, rfl⟩
set_option maxRecDepth 20000 in
theorem dL_law_916 : decode cL_law 916 = .ok (.iconst 1, 1) ∧ 916 + 1 = 917 := ⟨by decide +kernel, rfl⟩
set_option maxRecDepth 20000 in
theorem dL_law_917 : decode cL_law 917 = .ok (.iadd, 1) ∧ 917 + 1 = 918 := ⟨by decide +kernel, rfl⟩
set_option maxRecDepth 20000 in
theorem dL_law_918 : decode cL_law 918 = .ok (.iaload, 1) ∧ 918 + 1 = 919 := ⟨by decide +kernel, rfl⟩
set_option maxRecDepth 20000 in
theorem dL_law_919 : decode cL_law 919 = .ok (.invokevirtual 112, 3) ∧ 919 + 3 = 922 := ⟨by decide +kernel, rfl⟩
set_option maxRecDepth 20000 in
theorem dL_law_922 : decode cL_law 922 = .ok (.aload_n 2, 1) ∧ 922 + 1 = 923 := ⟨by decide +kernel, rfl⟩
set_option maxRecDepth 20000 in
theorem dL_law_923 : decode cL_law 923 = .ok (.aload_n 0, 1) ∧ 923 + 1 = 924 := ⟨by decide +kernel, rfl⟩
set_option maxRecDepth 20000 in
theorem dL_law_924 : decode cL_law 924 = .ok (.iload_n 3, 1) ∧ 924 + 1 = 925 := ⟨by decide +kernel, rfl⟩
set_option maxRecDepth 20000 in
theorem dL_law_925 : decode cL_law 925 = .ok (.iconst 1, 1) ∧ 925 + 1 = 926 := ⟨by decide +kernel, rfl⟩
set_option maxRecDepth 20000 in
theorem dL_law_926 : decode cL_law 926 = .ok (.iadd, 1) ∧ 926 + 1 = 927 := ⟨by decide +kernel, rfl⟩
set_option maxRecDepth 20000 in
theorem dL_law_927 : decode cL_law 927 = .ok (.iaload, 1) ∧ 927 + 1 = 928 := ⟨by decide +kernel, rfl⟩
set_option maxRecDepth 20000 in
theorem dL_law_928 : decode cL_law 928 = .ok (.invokevirtual 115, 3) ∧ 928 + 3 = 931 := ⟨by decide +kernel, rfl⟩
set_option maxRecDepth 20000 in
theorem dL_law_931 : decode cL_law 931 = .ok (.if_icmp .eq 555, 3) ∧ 931 + 3 = 934 ∧ ((931 : Nat) : Int) + (555) = ((1486 : Nat) : Int) := ⟨by decide +kernel, rfl, by decide⟩
set_option maxRecDepth 20000 in
theorem dL_law_934 : decode cL_law 934 = .ok (.iconst 0, 1) ∧ 934 + 1 = 935 := ⟨by decide +kernel, rfl⟩
set_option maxRecDepth 20000 in
theorem dL_law_935 : decode cL_law 935 = .ok (.ireturn, 1) := by decide +kernel
set_option maxRecDepth 20000 in
theorem dL_law_936 : decode cL_law 936 = .ok (.aload_n 1, 1) ∧ 936 + 1 = 937 := ⟨by decide +kernel, rfl⟩
set_option maxRecDepth 20000 in
theorem dL_law_937 : decode cL_law 937 = .ok (.aload_n 0, 1) ∧ 937 + 1 = 938 := ⟨by decide +kernel, rfl⟩
set_option maxRecDepth 20000 in
theorem dL_law_938 : decode cL_law 938 = .ok (.iload_n 3, 1) ∧ 938 + 1 = 939 := ⟨by decide +kernel, rfl⟩
set_option maxRecDepth 20000 in
theorem dL_law_939 : decode cL_law 939 = .ok (.iconst 1, 1) ∧ 939 + 1 = 940 := ⟨by decide +kernel, rfl⟩
set_option maxRecDepth 20000 in
theorem dL_law_940 : decode cL_law 940 = .ok (.iadd, 1) ∧ 940 + 1 = 941 := ⟨by decide +kernel, rfl⟩
set_option maxRecDepth 20000 in
theorem dL_law_941 : decode cL_law 941 = .ok (.iaload, 1) ∧ 941 + 1 = 942 := ⟨by decide +kernel, rfl⟩
set_option maxRecDepth 20000 in
theorem dL_law_942 : decode cL_law 942 = .ok (.aload_n 0, 1) ∧ 942 + 1 = 943 := ⟨by decide +kernel, rfl⟩
set_option maxRecDepth 20000 in
theorem dL_law_943 : decode cL_law 943 = .ok (.iload_n 3, 1) ∧ 943 + 1 = 944 := ⟨by decide +kernel, rfl⟩
set_option maxRecDepth 20000 in
theorem dL_law_944 : decode cL_law 944 = .ok (.iconst 2, 1) ∧ 944 + 1 = 945 := ⟨by decide +kernel, rfl⟩
set_option maxRecDepth 20000 in
theorem dL_law_945 : decode cL_law 945 = .ok (.iadd, 1) ∧ 945 + 1 = 946 := ⟨by decide +kernel, rfl⟩
set_option maxRecDepth 20000 in
theorem dL_law_946 : decode cL_law 946 = .ok (.iaload, 1) ∧ 946 + 1 = 947 := ⟨by decide +kernel, rfl⟩
set_option maxRecDepth 20000 in
theorem dL_law_947 : decode cL_law 947 = .ok (.aload_n 0, 1) ∧ 947 + 1 = 948 := ⟨by decide +kernel, rfl⟩
set_option maxRecDepth 20000 in
theorem dL_law_948 : decode cL_law 948 = .ok (.iload_n 3, 1) ∧ 948 + 1 = 949 := ⟨by decide +kernel, rfl⟩
set_option maxRecDepth 20000 in
theorem dL_law_949 : decode cL_law 949 = .ok (.iconst 3, 1) ∧ 949 + 1 = 950 := ⟨by decide +kernel, rfl⟩
set_option maxRecDepth 20000 in
theorem dL_law_950 : decode cL_law 950 = .ok (.iadd, 1) ∧ 950 + 1 = 951 := ⟨by decide +kernel, rfl⟩
set_option maxRecDepth 20000 in
theorem dL_law_951 : decode cL_law 951 = .ok (.iaload, 1) ∧ 951 + 1 = 952 := ⟨by decide +kernel, rfl⟩
set_option maxRecDepth 20000 in
theorem dL_law_952 : decode cL_law 952 = .ok (.invokevirtual 116, 3) ∧ 952 + 3 = 955 := ⟨by decide +kernel, rfl⟩
set_option maxRecDepth 20000 in
theorem dL_law_955 : decode cL_law 955 = .ok (.aload_n 2, 1) ∧ 955 + 1 = 956 := ⟨by decide +kernel, rfl⟩
set_option maxRecDepth 20000 in
theorem dL_law_956 : decode cL_law 956 = .ok (.aload_n 0, 1) ∧ 956 + 1 = 957 := ⟨by decide +kernel, rfl⟩
set_option maxRecDepth 20000 in
theorem dL_law_957 : decode cL_law 957 = .ok (.iload_n 3, 1) ∧ 957 + 1 = 958 := ⟨by decide +kernel, rfl⟩
set_option maxRecDepth 20000 in
theorem dL_law_958 : decode cL_law 958 = .ok (.iconst 1, 1) ∧ 958 + 1 = 959 := ⟨by decide +kernel, rfl⟩
set_option maxRecDepth 20000 in
theorem dL_law_959 : decode cL_law 959 = .ok (.iadd, 1) ∧ 959 + 1 = 960 := ⟨by decide +kernel, rfl⟩
set_option maxRecDepth 20000 in
theorem dL_law_960 : decode cL_law 960 = .ok (.iaload, 1) ∧ 960 + 1 = 961 := ⟨by decide +kernel, rfl⟩
set_option maxRecDepth 20000 in
theorem dL_law_961 : decode cL_law 961 = .ok (.aload_n 0, 1) ∧ 961 + 1 = 962 := ⟨by decide +kernel, rfl⟩
set_option maxRecDepth 20000 in
theorem dL_law_962 : decode cL_law 962 = .ok (.iload_n 3, 1) ∧ 962 + 1 = 963 := ⟨by decide +kernel, rfl⟩
set_option maxRecDepth 20000 in
theorem dL_law_963 : decode cL_law 963 = .ok (.iconst 2, 1) ∧ 963 + 1 = 964 := ⟨by decide +kernel, rfl⟩
set_option maxRecDepth 20000 in
theorem dL_law_964 : decode cL_law 964 = .ok (.iadd, 1) ∧ 964 + 1 = 965 := ⟨by decide +kernel, rfl⟩
set_option maxRecDepth 20000 in
theorem dL_law_965 : decode cL_law 965 = .ok (.iaload, 1) ∧ 965 + 1 = 966 := ⟨by decide +kernel, rfl⟩
set_option maxRecDepth 20000 in
theorem dL_law_966 : decode cL_law 966 = .ok (.aload_n 0, 1) ∧ 966 + 1 = 967 := ⟨by decide +kernel, rfl⟩
set_option maxRecDepth 20000 in
theorem dL_law_967 : decode cL_law 967 = .ok (.iload_n 3, 1) ∧ 967 + 1 = 968 := ⟨by decide +kernel, rfl⟩
set_option maxRecDepth 20000 in
theorem dL_law_968 : decode cL_law 968 = .ok (.iconst 3, 1) ∧ 968 + 1 = 969 := ⟨by decide +kernel, rfl⟩
set_option maxRecDepth 20000 in
theorem dL_law_969 : decode cL_law 969 = .ok (.iadd, 1) ∧ 969 + 1 = 970 := ⟨by decide +kernel, rfl⟩
set_option maxRecDepth 20000 in
theorem dL_law_970 : decode cL_law 970 = .ok (.iaload, 1) ∧ 970 + 1 = 971 := ⟨by decide +kernel, rfl⟩
set_option maxRecDepth 20000 in
theorem dL_law_971 : decode cL_law 971 = .ok (.invokevirtual 119, 3) ∧ 971 + 3 = 974 := ⟨by decide +kernel, rfl⟩
set_option maxRecDepth 20000 in
theorem dL_law_974 : decode cL_law 974 = .ok (.if_icmp .eq 512, 3) ∧ 974 + 3 = 977 ∧ ((974 : Nat) : Int) + (512) = ((1486 : Nat) : Int) := ⟨by decide +kernel, rfl, by decide⟩
set_option maxRecDepth 20000 in
theorem dL_law_977 : decode cL_law 977 = .ok (.iconst 0, 1) ∧ 977 + 1 = 978 := ⟨by decide +kernel, rfl⟩
set_option maxRecDepth 20000 in
theorem dL_law_978 : decode cL_law 978 = .ok (.ireturn, 1) := by decide +kernel
set_option maxRecDepth 20000 in
theorem dL_law_979 : decode cL_law 979 = .ok (.aload_n 1, 1) ∧ 979 + 1 = 980 := ⟨by decide +kernel, rfl⟩
set_option maxRecDepth 20000 in
theorem dL_law_980 : decode cL_law 980 = .ok (.aload_n 0, 1) ∧ 980 + 1 = 981 := ⟨by decide +kernel, rfl⟩
set_option maxRecDepth 20000 in
theorem dL_law_981 : decode cL_law 981 = .ok (.iload_n 3, 1) ∧ 981 + 1 = 982 := ⟨by decide +kernel, rfl⟩
set_option maxRecDepth 20000 in
theorem dL_law_982 : decode cL_law 982 = .ok (.iconst 1, 1) ∧ 982 + 1 = 983 := ⟨by decide +kernel, rfl⟩
set_option maxRecDepth 20000 in
theorem dL_law_983 : decode cL_law 983 = .ok (.iadd, 1) ∧ 983 + 1 = 984 := ⟨by decide +kernel, rfl⟩
set_option maxRecDepth 20000 in
theorem dL_law_984 : decode cL_law 984 = .ok (.iaload, 1) ∧ 984 + 1 = 985 := ⟨by decide +kernel, rfl⟩
set_option maxRecDepth 20000 in
theorem dL_law_985 : decode cL_law 985 = .ok (.aload_n 0, 1) ∧ 985 + 1 = 986 := ⟨by decide +kernel, rfl⟩
set_option maxRecDepth 20000 in
theorem dL_law_986 : decode cL_law 986 = .ok (.iload_n 3, 1) ∧ 986 + 1 = 987 := ⟨by decide +kernel, rfl⟩
set_option maxRecDepth 20000 in
theorem dL_law_987 : decode cL_law 987 = .ok (.iconst 2, 1) ∧ 987 + 1 = 988 := ⟨by decide +kernel, rfl⟩
set_option maxRecDepth 20000 in
theorem dL_law_988 : decode cL_law 988 = .ok (.iadd, 1) ∧ 988 + 1 = 989 := ⟨by decide +kernel, rfl⟩
set_option maxRecDepth 20000 in
theorem dL_law_989 : decode cL_law 989 = .ok (.iaload, 1) ∧ 989 + 1 = 990 := ⟨by decide +kernel, rfl⟩
set_option maxRecDepth 20000 in
theorem dL_law_990 : decode cL_law 990 = .ok (.invokevirtual 120, 3) ∧ 990 + 3 = 993 := ⟨by decide +kernel, rfl⟩
set_option maxRecDepth 20000 in
theorem dL_law_993 : decode cL_law 993 = .ok (.aload_n 2, 1) ∧ 993 + 1 = 994 := ⟨by decide +kernel, rfl⟩
set_option maxRecDepth 20000 in
theorem dL_law_994 : decode cL_law 994 = .ok (.aload_n 0, 1) ∧ 994 + 1 = 995 := ⟨by decide +kernel, rfl⟩
set_option maxRecDepth 20000 in
theorem dL_law_995 : decode cL_law 995 = .ok (.iload_n 3, 1) ∧ 995 + 1 = 996 := ⟨by decide +kernel, rfl⟩
set_option maxRecDepth 20000 in
theorem dL_law_996 : decode cL_law 996 = .ok (.iconst 1, 1) ∧ 996 + 1 = 997 := ⟨by decide +kernel, rfl⟩
set_option maxRecDepth 20000 in
theorem dL_law_997 : decode cL_law 997 = .ok (.iadd, 1) ∧ 997 + 1 = 998 := ⟨by decide +kernel, rfl⟩
set_option maxRecDepth 20000 in
theorem dL_law_998 : decode cL_law 998 = .ok (.iaload, 1) ∧ 998 + 1 = 999 := ⟨by decide +kernel, rfl⟩
set_option maxRecDepth 20000 in
theorem dL_law_999 : decode cL_law 999 = .ok (.aload_n 0, 1) ∧ 999 + 1 = 1000 := ⟨by decide +kernel, rfl⟩
set_option maxRecDepth 20000 in
theorem dL_law_1000 : decode cL_law 1000 = .ok (.iload_n 3, 1) ∧ 1000 + 1 = 1001 := ⟨by decide +kernel, rfl⟩
set_option maxRecDepth 20000 in
theorem dL_law_1001 : decode cL_law 1001 = .ok (.iconst 2, 1) ∧ 1001 + 1 = 1002 := ⟨by decide +kernel, rfl⟩
set_option maxRecDepth 20000 in
theorem dL_law_1002 : decode cL_law 1002 = .ok (.iadd, 1) ∧ 1002 + 1 = 1003 := ⟨by decide +kernel, rfl⟩
set_option maxRecDepth 20000 in
theorem dL_law_1003 : decode cL_law 1003 = .ok (.iaload, 1) ∧ 1003 + 1 = 1004 := ⟨by decide +kernel, rfl⟩
set_option maxRecDepth 20000 in
theorem dL_law_1004 : decode cL_law 1004 = .ok (.invokevirtual 123, 3) ∧ 1004 + 3 = 1007 := ⟨by decide +kernel, rfl⟩
set_option maxRecDepth 20000 in
theorem dL_law_1007 : decode cL_law 1007 = .ok (.if_icmp .eq 479, 3) ∧ 1007 + 3 = 1010 ∧ ((1007 : Nat) : Int) + (479) = ((1486 : Nat) : Int) := ⟨by decide +kernel, rfl, by decide⟩
set_option maxRecDepth 20000 in
theorem dL_law_1010 : decode cL_law 1010 = .ok (.iconst 0, 1) ∧ 1010 + 1 = 1011 := ⟨by decide +kernel, rfl⟩
set_option maxRecDepth 20000 in
theorem dL_law_1011 : decode cL_law 1011 = .ok (.ireturn, 1) := by decide +kernel
set_option maxRecDepth 20000 in
theorem dL_law_1012 : decode cL_law 1012 = .ok (.aload_n 1, 1) ∧ 1012 + 1 = 1013 := ⟨by decide +kernel, rfl⟩
set_option maxRecDepth 20000 in
theorem dL_law_1013 : decode cL_law 1013 = .ok (.aload_n 0, 1) ∧ 1013 + 1 = 1014 := ⟨by decide +kernel, rfl⟩
set_option maxRecDepth 20000 in
theorem dL_law_1014 : decode cL_law 1014 = .ok (.iload_n 3, 1) ∧ 1014 + 1 = 1015 := ⟨by decide +kernel, rfl⟩
set_option maxRecDepth 20000 in
theorem dL_law_1015 : decode cL_law 1015 = .ok (.iconst 1, 1) ∧ 1015 + 1 = 1016 := ⟨by decide +kernel, rfl⟩
set_option maxRecDepth 20000 in
theorem dL_law_1016 : decode cL_law 1016 = .ok (.iadd, 1) ∧ 1016 + 1 = 1017 := ⟨by decide +kernel, rfl⟩
set_option maxRecDepth 20000 in
theorem dL_law_1017 : decode cL_law 1017 = .ok (.iaload, 1) ∧ 1017 + 1 = 1018 := ⟨by decide +kernel, rfl⟩
set_option maxRecDepth 20000 in
theorem dL_law_1018 : decode cL_law 1018 = .ok (.aload_n 0, 1) ∧ 1018 + 1 = 1019 := ⟨by decide +kernel, rfl⟩
set_option maxRecDepth 20000 in
theorem dL_law_1019 : decode cL_law 1019 = .ok (.iload_n 3, 1) ∧ 1019 + 1 = 1020 := ⟨by decide +kernel, rfl⟩
set_option maxRecDepth 20000 in
theorem dL_law_1020 : decode cL_law 1020 = .ok (.iconst 2, 1) ∧ 1020 + 1 = 1021 := ⟨by decide +kernel, rfl⟩
set_option maxRecDepth 20000 in
theorem dL_law_1021 : decode cL_law 1021 = .ok (.iadd, 1) ∧ 1021 + 1 = 1022 := ⟨by decide +kernel, rfl⟩
set_option maxRecDepth 20000 in
theorem dL_law_1022 : decode cL_law 1022 = .ok (.iaload, 1) ∧ 1022 + 1 = 1023 := ⟨by decide +kernel, rfl⟩
set_option maxRecDepth 20000 in
theorem dL_law_1023 : decode cL_law 1023 = .ok (.invokevirtual 124, 3) ∧ 1023 + 3 = 1026 := ⟨by decide +kernel, rfl⟩
set_option maxRecDepth 20000 in
theorem dL_law_1026 : decode cL_law 1026 = .ok (.aload_n 2, 1) ∧ 1026 + 1 = 1027 := ⟨by decide +kernel, rfl⟩
set_option maxRecDepth 20000 in
theorem dL_law_1027 : decode cL_law 1027 = .ok (.aload_n 0, 1) ∧ 1027 + 1 = 1028 := ⟨by decide +kernel, rfl⟩
set_option maxRecDepth 20000 in
theorem dL_law_1028 : decode cL_law 1028 = .ok (.iload_n 3, 1) ∧ 1028 + 1 = 1029 := ⟨by decide +kernel, rfl⟩
set_option maxRecDepth 20000 in
theorem dL_law_1029 : decode cL_law 1029 = .ok (.iconst 1, 1) ∧ 1029 + 1 = 1030 := ⟨by decide +kernel, rfl⟩
set_option maxRecDepth 20000 in
theorem dL_law_1030 : decode cL_law 1030 = .ok (.iadd, 1) ∧ 1030 + 1 = 1031 := ⟨by decide +kernel, rfl⟩
set_option maxRecDepth 20000 in
theorem dL_law_1031 : decode cL_law 1031 = .ok (.iaload, 1) ∧ 1031 + 1 = 1032 := ⟨by decide +kernel, rfl⟩
set_option maxRecDepth 20000 in
theorem dL_law_1032 : decode cL_law 1032 = .ok (.aload_n 0, 1) ∧ 1032 + 1 = 1033 := ⟨by decide +kernel, rfl⟩
set_option maxRecDepth 20000 in
theorem dL_law_1033 : decode cL_law 1033 = .ok (.iload_n 3, 1) ∧ 1033 + 1 = 1034 := ⟨by decide +kernel, rfl⟩
set_option maxRecDepth 20000 in
theorem dL_law_1034 : decode cL_law 1034 = .ok (.iconst 2, 1) ∧ 1034 + 1 = 1035 := ⟨by decide +kernel, rfl⟩
set_option maxRecDepth 20000 in
theorem dL_law_1035 : decode cL_law 1035 = .ok (.iadd, 1) ∧ 1035 + 1 = 1036 := ⟨by decide +kernel, rfl⟩
set_option maxRecDepth 20000 in
theorem dL_law_1036 : decode cL_law 1036 = .ok (.iaload, 1) ∧ 1036 + 1 = 1037 := ⟨by decide +kernel, rfl⟩
set_option maxRecDepth 20000 in
theorem dL_law_1037 : decode cL_law 1037 = .ok (.invokevirtual 127, 3) ∧ 1037 + 3 = 1040 := ⟨by decide +kernel, rfl⟩
set_option maxRecDepth 20000 in
theorem dL_law_1040 : decode cL_law 1040 = .ok (.if_icmp .eq 446, 3) ∧ 1040 + 3 = 1043 ∧ ((1040 : Nat) : Int) + (446) = ((1486 : Nat) : Int) := ⟨by decide +kernel, rfl, by decide⟩
set_option maxRecDepth 20000 in
theorem dL_law_1043 : decode cL_law 1043 = .ok (.iconst 0, 1) ∧ 1043 + 1 = 1044 := ⟨by decide +kernel, rfl⟩
set_option maxRecDepth 20000 in
theorem dL_law_1044 : decode cL_law 1044 = .ok (.ireturn, 1) := by decide +kernel
set_option maxRecDepth 20000 in
theorem dL_law_1045 : decode cL_law 1045 = .ok (.aload_n 1, 1) ∧ 1045 + 1 = 1046 := ⟨by decide +kernel, rfl⟩
set_option maxRecDepth 20000 in
theorem dL_law_1046 : decode cL_law 1046 = .ok (.aload_n 0, 1) ∧ 1046 + 1 = 1047 := ⟨by decide +kernel, rfl⟩
set_option maxRecDepth 20000 in
theorem dL_law_1047 : decode cL_law 1047 = .ok (.iload_n 3, 1) ∧ 1047 + 1 = 1048 := ⟨by decide +kernel, rfl⟩
set_option maxRecDepth 20000 in
theorem dL_law_1048 : decode cL_law 1048 = .ok (.iconst 1, 1) ∧ 1048 + 1 = 1049 := ⟨by decide +kernel, rfl⟩
set_option maxRecDepth 20000 in
theorem dL_law_1049 : decode cL_law 1049 = .ok (.iadd, 1) ∧ 1049 + 1 = 1050 := ⟨by decide +kernel, rfl⟩
set_option maxRecDepth 20000 in
theorem dL_law_1050 : decode cL_law 1050 = .ok (.iaload, 1) ∧ 1050 + 1 = 1051 := ⟨by decide +kernel, rfl⟩
set_option maxRecDepth 20000 in
theorem dL_law_1051 : decode cL_law 1051 = .ok (.invokevirtual 128, 3) ∧ 1051 + 3 = 1054 := ⟨by decide +kernel, rfl⟩
set_option maxRecDepth 20000 in
theorem dL_law_1054 : decode cL_law 1054 = .ok (.aload_n 2, 1) ∧ 1054 + 1 = 1055 := ⟨by decide +kernel, rfl⟩
set_option maxRecDepth 20000 in
theorem dL_law_1055 : decode cL_law 1055 = .ok (.aload_n 0, 1) ∧ 1055 + 1 = 1056 := ⟨by decide +kernel, rfl⟩
set_option maxRecDepth 20000 in
theorem dL_law_1056 : decode cL_law 1056 = .ok (.iload_n 3, 1) ∧ 1056 + 1 = 1057 := ⟨by decide +kernel, rfl⟩
set_option maxRecDepth 20000 in
theorem dL_law_1057 : decode cL_law 1057 = .ok (.iconst 1, 1) ∧ 1057 + 1 = 1058 := ⟨by decide +kernel, rfl⟩
set_option maxRecDepth 20000 in
theorem dL_law_1058 : decode cL_law 1058 = .ok (.iadd, 1) ∧ 1058 + 1 = 1059 := ⟨by decide +kernel, rfl⟩
set_option maxRecDepth 20000 in
theorem dL_law_1059 : decode cL_law 1059 = .ok (.iaload, 1) ∧ 1059 + 1 = 1060 := ⟨by decide +kernel, rfl⟩
set_option maxRecDepth 20000 in
theorem dL_law_1060 : decode cL_law 1060 = .ok (.invokevirtual 131, 3) ∧ 1060 + 3 = 1063 := ⟨by decide +kernel, rfl⟩
set_option maxRecDepth 20000 in
theorem dL_law_1063 : decode cL_law 1063 = .ok (.lcmp, 1) ∧ 1063 + 1 = 1064 := ⟨by decide +kernel, rfl⟩
set_option maxRecDepth 20000 in
theorem dL_law_1064 : decode cL_law 1064 = .ok (.ifCond .eq 422, 3) ∧ 1064 + 3 = 1067 ∧ ((1064 : Nat) : Int) + (422) = ((1486 : Nat) : Int) := ⟨by decide +kernel, rfl, by decide⟩
set_option maxRecDepth 20000 in
theorem dL_law_1067 : decode cL_law 1067 = .ok (.iconst 0, 1) ∧ 1067 + 1 = 1068 := ⟨by decide +kernel, rfl⟩
set_option maxRecDepth 20000 in
theorem dL_law_1068 : decode cL_law 1068 = .ok (.ireturn, 1) := by decide +kernel
set_option maxRecDepth 20000 in
theorem dL_law_1069 : decode cL_law 1069 = .ok (.aload_n 1, 1) ∧ 1069 + 1 = 1070 := ⟨by decide +kernel, rfl⟩
set_option maxRecDepth 20000 in
theorem dL_law_1070 : decode cL_law 1070 = .ok (.invokevirtual 132, 3) ∧ 1070 + 3 = 1073 := ⟨by decide +kernel, rfl⟩
set_option maxRecDepth 20000 in
theorem dL_law_1073 : decode cL_law 1073 = .ok (.aload_n 2, 1) ∧ 1073 + 1 = 1074 := ⟨by decide +kernel, rfl⟩
set_option maxRecDepth 20000 in
theorem dL_law_1074 : decode cL_law 1074 = .ok (.invokevirtual 135, 3) ∧ 1074 + 3 = 1077 := ⟨by decide +kernel, rfl⟩
set_option maxRecDepth 20000 in
theorem dL_law_1077 : decode cL_law 1077 = .ok (.if_icmp .eq 409, 3) ∧ 1077 + 3 = 1080 ∧ ((1077 : Nat) : Int) + (409) = ((1486 : Nat) : Int) := ⟨by decide +kernel, rfl, by decide⟩
set_option maxRecDepth 20000 in
theorem dL_law_1080 : decode cL_law 1080 = .ok (.iconst 0, 1) ∧ 1080 + 1 = 1081 := ⟨by decide +kernel, rfl⟩
set_option maxRecDepth 20000 in
theorem dL_law_1081 : decode cL_law 1081 = .ok (.ireturn, 1) := by decide +kernel
set_option maxRecDepth 20000 in
theorem dL_law_1082 : decode cL_law 1082 = .ok (.aload_n 1, 1) ∧ 1082 + 1 = 1083 := ⟨by decide +kernel, rfl⟩
set_option maxRecDepth 20000 in
theorem dL_law_1083 : decode cL_law 1083 = .ok (.aload_n 0, 1) ∧ 1083 + 1 = 1084 := ⟨by decide +kernel, rfl⟩
set_option maxRecDepth 20000 in
theorem dL_law_1084 : decode cL_law 1084 = .ok (.iload_n 3, 1) ∧ 1084 + 1 = 1085 := ⟨by decide +kernel, rfl⟩
set_option maxRecDepth 20000 in
theorem dL_law_1085 : decode cL_law 1085 = .ok (.iconst 1, 1) ∧ 1085 + 1 = 1086 := ⟨by decide +kernel, rfl⟩
set_option maxRecDepth 20000 in
theorem dL_law_1086 : decode cL_law 1086 = .ok (.iadd, 1) ∧ 1086 + 1 = 1087 := ⟨by decide +kernel, rfl⟩
set_option maxRecDepth 20000 in
theorem dL_law_1087 : decode cL_law 1087 = .ok (.iaload, 1) ∧ 1087 + 1 = 1088 := ⟨by decide +kernel, rfl⟩
set_option maxRecDepth 20000 in
theorem dL_law_1088 : decode cL_law 1088 = .ok (.aload_n 0, 1) ∧ 1088 + 1 = 1089 := ⟨by decide +kernel, rfl⟩
set_option maxRecDepth 20000 in
theorem dL_law_1089 : decode cL_law 1089 = .ok (.iload_n 3, 1) ∧ 1089 + 1 = 1090 := ⟨by decide +kernel, rfl⟩
set_option maxRecDepth 20000 in
theorem dL_law_1090 : decode cL_law 1090 = .ok (.iconst 2, 1) ∧ 1090 + 1 = 1091 := ⟨by decide +kernel, rfl⟩
set_option maxRecDepth 20000 in
theorem dL_law_1091 : decode cL_law 1091 = .ok (.iadd, 1) ∧ 1091 + 1 = 1092 := ⟨by decide +kernel, rfl⟩
set_option maxRecDepth 20000 in
theorem dL_law_1092 : decode cL_law 1092 = .ok (.iaload, 1) ∧ 1092 + 1 = 1093 := ⟨by decide +kernel, rfl⟩
set_option maxRecDepth 20000 in
theorem dL_law_1093 : decode cL_law 1093 = .ok (.aload_n 0, 1) ∧ 1093 + 1 = 1094 := ⟨by decide +kernel, rfl⟩
set_option maxRecDepth 20000 in
theorem dL_law_1094 : decode cL_law 1094 = .ok (.iload_n 3, 1) ∧ 1094 + 1 = 1095 := ⟨by decide +kernel, rfl⟩
set_option maxRecDepth 20000 in
theorem dL_law_1095 : decode cL_law 1095 = .ok (.iconst 3, 1) ∧ 1095 + 1 = 1096 := ⟨by decide +kernel, rfl⟩
set_option maxRecDepth 20000 in
theorem dL_law_1096 : decode cL_law 1096 = .ok (.iadd, 1) ∧ 1096 + 1 = 1097 := ⟨by decide +kernel, rfl⟩
set_option maxRecDepth 20000 in
theorem dL_law_1097 : decode cL_law 1097 = .ok (.iaload, 1) ∧ 1097 + 1 = 1098 := ⟨by decide +kernel, rfl⟩
set_option maxRecDepth 20000 in
theorem dL_law_1098 : decode cL_law 1098 = .ok (.invokevirtual 136, 3) ∧ 1098 + 3 = 1101 := ⟨by decide +kernel, rfl⟩
set_option maxRecDepth 20000 in
theorem dL_law_1101 : decode cL_law 1101 = .ok (.aload_n 2, 1) ∧ 1101 + 1 = 1102 := ⟨by decide +kernel, rfl⟩
set_option maxRecDepth 20000 in
theorem dL_law_1102 : decode cL_law 1102 = .ok (.aload_n 0, 1) ∧ 1102 + 1 = 1103 := ⟨by decide +kernel, rfl⟩
set_option maxRecDepth 20000 in
theorem dL_law_1103 : decode cL_law 1103 = .ok (.iload_n 3, 1) ∧ 1103 + 1 = 1104 := ⟨by decide +kernel, rfl⟩
set_option maxRecDepth 20000 in
theorem dL_law_1104 : decode cL_law 1104 = .ok (.iconst 1, 1) ∧ 1104 + 1 = 1105 := ⟨by decide +kernel, rfl⟩
set_option maxRecDepth 20000 in
theorem dL_law_1105 : decode cL_law 1105 = .ok (.iadd, 1) ∧ 1105 + 1 = 1106 := ⟨by decide +kernel, rfl⟩
set_option maxRecDepth 20000 in
theorem dL_law_1106 : decode cL_law 1106 = .ok (.iaload, 1) ∧ 1106 + 1 = 1107 := ⟨by decide +kernel, rfl⟩
set_option maxRecDepth 20000 in
theorem dL_law_1107 : decode cL_law 1107 = .ok (.aload_n 0, 1) ∧ 1107 + 1 = 1108 := ⟨by decide +kernel, rfl⟩
set_option maxRecDepth 20000 in
theorem dL_law_1108 : decode cL_law 1108 = .ok (.iload_n 3, 1) ∧ 1108 + 1 = 1109 := ⟨by decide +kernel, rfl⟩
set_option maxRecDepth 20000 in
theorem dL_law_1109 : decode cL_law 1109 = .ok (.iconst 2, 1) ∧ 1109 + 1 = 1110 := ⟨by decide +kernel, rfl⟩
set_option maxRecDepth 20000 in
theorem dL_law_1110 : decode cL_law 1110 = .ok (.iadd, 1) ∧ 1110 + 1 = 1111 := ⟨by decide +kernel, rfl⟩
set_option maxRecDepth 20000 in
theorem dL_law_1111 : decode cL_law 1111 = .ok (.iaload, 1) ∧ 1111 + 1 = 1112 := ⟨by decide +kernel, rfl⟩
set_option maxRecDepth 20000 in
theorem dL_law_1112 : decode cL_law 1112 = .ok (.aload_n 0, 1) ∧ 1112 + 1 = 1113 := ⟨by decide +kernel, rfl⟩
set_option maxRecDepth 20000 in
theorem dL_law_1113 : decode cL_law 1113 = .ok (.iload_n 3, 1) ∧ 1113 + 1 = 1114 := ⟨by decide +kernel, rfl⟩
set_option maxRecDepth 20000 in
theorem dL_law_1114 : decode cL_law 1114 = .ok (.iconst 3, 1) ∧ 1114 + 1 = 1115 := ⟨by decide +kernel, rfl⟩
set_option maxRecDepth 20000 in
theorem dL_law_1115 : decode cL_law 1115 = .ok (.iadd, 1) ∧ 1115 + 1 = 1116 := ⟨by decide +kernel, rfl⟩
set_option maxRecDepth 20000 in
theorem dL_law_1116 : decode cL_law 1116 = .ok (.iaload, 1) ∧ 1116 + 1 = 1117 := ⟨by decide +kernel, rfl⟩
set_option maxRecDepth 20000 in
theorem dL_law_1117 : decode cL_law 1117 = .ok (.invokevirtual 139, 3) ∧ 1117 + 3 = 1120 := ⟨by decide +kernel, rfl⟩
set_option maxRecDepth 20000 in
theorem dL_law_1120 : decode cL_law 1120 = .ok (.if_icmp .eq 366, 3) ∧ 1120 + 3 = 1123 ∧ ((1120 : Nat) : Int) + (366) = ((1486 : Nat) : Int) := ⟨by decide +kernel, rfl, by decide⟩
set_option maxRecDepth 20000 in
theorem dL_law_1123 : decode cL_law 1123 = .ok (.iconst 0, 1) ∧ 1123 + 1 = 1124 := ⟨by decide +kernel, rfl⟩
set_option maxRecDepth 20000 in
theorem dL_law_1124 : decode cL_law 1124 = .ok (.ireturn, 1) := by decide +kernel
set_option maxRecDepth 20000 in
theorem dL_law_1125 : decode cL_law 1125 = .ok (.aload_n 1, 1) ∧ 1125 + 1 = 1126 := ⟨by decide +kernel, rfl⟩
set_option maxRecDepth 20000 in
theorem dL_law_1126 : decode cL_law 1126 = .ok (.aload_n 0, 1) ∧ 1126 + 1 = 1127 := ⟨by decide +kernel, rfl⟩
set_option maxRecDepth 20000 in
theorem dL_law_1127 : decode cL_law 1127 = .ok (.iload_n 3, 1) ∧ 1127 + 1 = 1128 := ⟨by decide +kernel, rfl⟩
set_option maxRecDepth 20000 in
theorem dL_law_1128 : decode cL_law 1128 = .ok (.iconst 1, 1) ∧ 1128 + 1 = 1129 := ⟨by decide +kernel, rfl⟩
set_option maxRecDepth 20000 in
theorem dL_law_1129 : decode cL_law 1129 = .ok (.iadd, 1) ∧ 1129 + 1 = 1130 := ⟨by decide +kernel, rfl⟩
set_option maxRecDepth 20000 in
theorem dL_law_1130 : decode cL_law 1130 = .ok (.iaload, 1) ∧ 1130 + 1 = 1131 := ⟨by decide +kernel, rfl⟩
set_option maxRecDepth 20000 in
theorem dL_law_1131 : decode cL_law 1131 = .ok (.invokevirtual 140, 3) ∧ 1131 + 3 = 1134 := ⟨by decide +kernel, rfl⟩
set_option maxRecDepth 20000 in
theorem dL_law_1134 : decode cL_law 1134 = .ok (.aload_n 2, 1) ∧ 1134 + 1 = 1135 := ⟨by decide +kernel, rfl⟩
set_option maxRecDepth 20000 in
theorem dL_law_1135 : decode cL_law 1135 = .ok (.aload_n 0, 1) ∧ 1135 + 1 = 1136 := ⟨by decide +kernel, rfl⟩
set_option maxRecDepth 20000 in
theorem dL_law_1136 : decode cL_law 1136 = .ok (.iload_n 3, 1) ∧ 1136 + 1 = 1137 := ⟨by decide +kernel, rfl⟩
set_option maxRecDepth 20000 in
theorem dL_law_1137 : decode cL_law 1137 = .ok (.iconst 1, 1) ∧ 1137 + 1 = 1138 := ⟨by decide +kernel, rfl⟩
set_option maxRecDepth 20000 in
theorem dL_law_1138 : decode cL_law 1138 = .ok (.iadd, 1) ∧ 1138 + 1 = 1139 := ⟨by decide +kernel, rfl⟩
set_option maxRecDepth 20000 in
theorem dL_law_1139 : decode cL_law 1139 = .ok (.iaload, 1) ∧ 1139 + 1 = 1140 := ⟨by decide +kernel, rfl⟩
set_option maxRecDepth 20000 in
theorem dL_law_1140 : decode cL_law 1140 = .ok (.invokevirtual 143, 3) ∧ 1140 + 3 = 1143 := ⟨by decide +kernel, rfl⟩
set_option maxRecDepth 20000 in
theorem dL_law_1143 : decode cL_law 1143 = .ok (.if_icmp .eq 343, 3) ∧ 1143 + 3 = 1146 ∧ ((1143 : Nat) : Int) + (343) = ((1486 : Nat) : Int) := ⟨by decide +kernel, rfl, by decide⟩
set_option maxRecDepth 20000 in
theorem dL_law_1146 : decode cL_law 1146 = .ok (.iconst 0, 1) ∧ 1146 + 1 = 1147 := ⟨by decide +kernel, rfl⟩
set_option maxRecDepth 20000 in
theorem dL_law_1147 : decode cL_law 1147 = .ok (.ireturn, 1) := by decide +kernel
set_option maxRecDepth 20000 in
theorem dL_law_1148 : decode cL_law 1148 = .ok (.aload_n 1, 1) ∧ 1148 + 1 = 1149 := ⟨by decide +kernel, rfl⟩
set_option maxRecDepth 20000 in
theorem dL_law_1149 : decode cL_law 1149 = .ok (.aload_n 0, 1) ∧ 1149 + 1 = 1150 := ⟨by decide +kernel, rfl⟩
set_option maxRecDepth 20000 in
theorem dL_law_1150 : decode cL_law 1150 = .ok (.iload_n 3, 1) ∧ 1150 + 1 = 1151 := ⟨by decide +kernel, rfl⟩
set_option maxRecDepth 20000 in
theorem dL_law_1151 : decode cL_law 1151 = .ok (.iconst 1, 1) ∧ 1151 + 1 = 1152 := ⟨by decide +kernel, rfl⟩
set_option maxRecDepth 20000 in
theorem dL_law_1152 : decode cL_law 1152 = .ok (.iadd, 1) ∧ 1152 + 1 = 1153 := ⟨by decide +kernel, rfl⟩
set_option maxRecDepth 20000 in
theorem dL_law_1153 : decode cL_law 1153 = .ok (.iaload, 1) ∧ 1153 + 1 = 1154 := ⟨by decide +kernel, rfl⟩
set_option maxRecDepth 20000 in
theorem dL_law_1154 : decode cL_law 1154 = .ok (.aload_n 0, 1) ∧ 1154 + 1 = 1155 := ⟨by decide +kernel, rfl⟩
set_option maxRecDepth 20000 in
theorem dL_law_1155 : decode cL_law 1155 = .ok (.iload_n 3, 1) ∧ 1155 + 1 = 1156 := ⟨by decide +kernel, rfl⟩
set_option maxRecDepth 20000 in
theorem dL_law_1156 : decode cL_law 1156 = .ok (.iconst 2, 1) ∧ 1156 + 1 = 1157 := ⟨by decide +kernel, rfl⟩
set_option maxRecDepth 20000 in
theorem dL_law_1157 : decode cL_law 1157 = .ok (.iadd, 1) ∧ 1157 + 1 = 1158 := ⟨by decide +kernel, rfl⟩
set_option maxRecDepth 20000 in
theorem dL_law_1158 : decode cL_law 1158 = .ok (.iaload, 1) ∧ 1158 + 1 = 1159 := ⟨by decide +kernel, rfl⟩
set_option maxRecDepth 20000 in
theorem dL_law_1159 : decode cL_law 1159 = .ok (.invokevirtual 144, 3) ∧ 1159 + 3 = 1162 := ⟨by decide +kernel, rfl⟩
set_option maxRecDepth 20000 in
theorem dL_law_1162 : decode cL_law 1162 = .ok (.aload_n 2, 1) ∧ 1162 + 1 = 1163 := ⟨by decide +kernel, rfl⟩
set_option maxRecDepth 20000 in
theorem dL_law_1163 : decode cL_law 1163 = .ok (.aload_n 0, 1) ∧ 1163 + 1 = 1164 := ⟨by decide +kernel, rfl⟩
set_option maxRecDepth 20000 in
theorem dL_law_1164 : decode cL_law 1164 = .ok (.iload_n 3, 1) ∧ 1164 + 1 = 1165 := ⟨by decide +kernel, rfl⟩
set_option maxRecDepth 20000 in
theorem dL_law_1165 : decode cL_law 1165 = .ok (.iconst 1, 1) ∧ 1165 + 1 = 1166 := ⟨by decide +kernel, rfl⟩
set_option maxRecDepth 20000 in
theorem dL_law_1166 : decode cL_law 1166 = .ok (.iadd, 1) ∧ 1166 + 1 = 1167 := ⟨by decide +kernel, rfl⟩
set_option maxRecDepth 20000 in
theorem dL_law_1167 : decode cL_law 1167 = .ok (.iaload, 1) ∧ 1167 + 1 = 1168 := ⟨by decide +kernel, rfl⟩
set_option maxRecDepth 20000 in
theorem dL_law_1168 : decode cL_law 1168 = .ok (.aload_n 0, 1) ∧ 1168 + 1 = 1169 := ⟨by decide +kernel, rfl⟩
set_option maxRecDepth 20000 in
theorem dL_law_1169 : decode cL_law 1169 = .ok (.iload_n 3, 1) ∧ 1169 + 1 = 1170 := ⟨by decide +kernel, rfl⟩
set_option maxRecDepth 20000 in
theorem dL_law_1170 : decode cL_law 1170 = .ok (.iconst 2, 1) ∧ 1170 + 1 = 1171 := ⟨by decide +kernel, rfl⟩
set_option maxRecDepth 20000 in
theorem dL_law_1171 : decode cL_law 1171 = .ok (.iadd, 1) ∧ 1171 + 1 = 1172 := ⟨by decide +kernel, rfl⟩
set_option maxRecDepth 20000 in
theorem dL_law_1172 : decode cL_law 1172 = .ok (.iaload, 1) ∧ 1172 + 1 = 1173 := ⟨by decide +kernel, rfl⟩
set_option maxRecDepth 20000 in
theorem dL_law_1173 : decode cL_law 1173 = .ok (.invokevirtual 147, 3) ∧ 1173 + 3 = 1176 := ⟨by decide +kernel, rfl⟩
set_option maxRecDepth 20000 in
theorem dL_law_1176 : decode cL_law 1176 = .ok (.if_icmp .eq 310, 3) ∧ 1176 + 3 = 1179 ∧ ((1176 : Nat) : Int) + (310) = ((1486 : Nat) : Int) := ⟨by decide +kernel, rfl, by decide⟩
set_option maxRecDepth 20000 in
theorem dL_law_1179 : decode cL_law 1179 = .ok (.iconst 0, 1) ∧ 1179 + 1 = 1180 := ⟨by decide +kernel, rfl⟩
set_option maxRecDepth 20000 in
theorem dL_law_1180 : decode cL_law 1180 = .ok (.ireturn, 1) := by decide +kernel
set_option maxRecDepth 20000 in
theorem dL_law_1181 : decode cL_law 1181 = .ok (.aload_n 1, 1) ∧ 1181 + 1 = 1182 := ⟨by decide +kernel, rfl⟩
set_option maxRecDepth 20000 in
theorem dL_law_1182 : decode cL_law 1182 = .ok (.aload_n 0, 1) ∧ 1182 + 1 = 1183 := ⟨by decide +kernel, rfl⟩
set_option maxRecDepth 20000 in
theorem dL_law_1183 : decode cL_law 1183 = .ok (.iload_n 3, 1) ∧ 1183 + 1 = 1184 := ⟨by decide +kernel, rfl⟩
set_option maxRecDepth 20000 in
theorem dL_law_1184 : decode cL_law 1184 = .ok (.iconst 1, 1) ∧ 1184 + 1 = 1185 := ⟨by decide +kernel, rfl⟩
set_option maxRecDepth 20000 in
theorem dL_law_1185 : decode cL_law 1185 = .ok (.iadd, 1) ∧ 1185 + 1 = 1186 := ⟨by decide +kernel, rfl⟩
set_option maxRecDepth 20000 in
theorem dL_law_1186 : decode cL_law 1186 = .ok (.iaload, 1) ∧ 1186 + 1 = 1187 := ⟨by decide +kernel, rfl⟩
set_option maxRecDepth 20000 in
theorem dL_law_1187 : decode cL_law 1187 = .ok (.aload_n 0, 1) ∧ 1187 + 1 = 1188 := ⟨by decide +kernel, rfl⟩
set_option maxRecDepth 20000 in
theorem dL_law_1188 : decode cL_law 1188 = .ok (.iload_n 3, 1) ∧ 1188 + 1 = 1189 := ⟨by decide +kernel, rfl⟩
set_option maxRecDepth 20000 in
theorem dL_law_1189 : decode cL_law 1189 = .ok (.iconst 2, 1) ∧ 1189 + 1 = 1190 := ⟨by decide +kernel, rfl⟩
set_option maxRecDepth 20000 in
theorem dL_law_1190 : decode cL_law 1190 = .ok (.iadd, 1) ∧ 1190 + 1 = 1191 := ⟨by decide +kernel, rfl⟩
set_option maxRecDepth 20000 in
theorem dL_law_1191 : decode cL_law 1191 = .ok (.iaload, 1) ∧ 1191 + 1 = 1192 := ⟨by decide +kernel, rfl⟩
set_option maxRecDepth 20000 in
theorem dL_law_1192 : decode cL_law 1192 = .ok (.aload_n 0, 1) ∧ 1192 + 1 = 1193 := ⟨by decide +kernel, rfl⟩
set_option maxRecDepth 20000 in
theorem dL_law_1193 : decode cL_law 1193 = .ok (.iload_n 3, 1) ∧ 1193 + 1 = 1194 := ⟨by decide +kernel, rfl⟩
set_option maxRecDepth 20000 in
theorem dL_law_1194 : decode cL_law 1194 = .ok (.iconst 3, 1) ∧ 1194 + 1 = 1195 := ⟨by decide +kernel, rfl⟩
set_option maxRecDepth 20000 in
theorem dL_law_1195 : decode cL_law 1195 = .ok (.iadd, 1) ∧ 1195 + 1 = 1196 := ⟨by decide +kernel, rfl⟩
set_option maxRecDepth 20000 in
theorem dL_law_1196 : decode cL_law 1196 = .ok (.iaload, 1) ∧ 1196 + 1 = 1197 := ⟨by decide +kernel, rfl⟩
set_option maxRecDepth 20000 in
theorem dL_law_1197 : decode cL_law 1197 = .ok (.invokevirtual 148, 3) ∧ 1197 + 3 = 1200 := ⟨by decide +kernel, rfl⟩
set_option maxRecDepth 20000 in
theorem dL_law_1200 : decode cL_law 1200 = .ok (.aload_n 2, 1) ∧ 1200 + 1 = 1201 := ⟨by decide +kernel, rfl⟩
set_option maxRecDepth 20000 in
theorem dL_law_1201 : decode cL_law 1201 = .ok (.aload_n 0, 1) ∧ 1201 + 1 = 1202 := ⟨by decide +kernel, rfl⟩
set_option maxRecDepth 20000 in
theorem dL_law_1202 : decode cL_law 1202 = .ok (.iload_n 3, 1) ∧ 1202 + 1 = 1203 := ⟨by decide +kernel, rfl⟩
set_option maxRecDepth 20000 in
theorem dL_law_1203 : decode cL_law 1203 = .ok (.iconst 1, 1) ∧ 1203 + 1 = 1204 := ⟨by decide +kernel, rfl⟩
set_option maxRecDepth 20000 in
theorem dL_law_1204 : decode cL_law 1204 = .ok (.iadd, 1) ∧ 1204 + 1 = 1205 := ⟨by decide +kernel, rfl⟩
set_option maxRecDepth 20000 in
theorem dL_law_1205 : decode cL_law 1205 = .ok (.iaload, 1) ∧ 1205 + 1 = 1206 := ⟨by decide +kernel, rfl⟩
set_option maxRecDepth 20000 in
theorem dL_law_1206 : decode cL_law 1206 = .ok (.aload_n 0, 1) ∧ 1206 + 1 = 1207 := ⟨by decide +kernel, rfl⟩
set_option maxRecDepth 20000 in
theorem dL_law_1207 : decode cL_law 1207 = .ok (.iload_n 3, 1) ∧ 1207 + 1 = 1208 := ⟨by decide +kernel, rfl⟩
set_option maxRecDepth 20000 in
theorem dL_law_1208 : decode cL_law 1208 = .ok (.iconst 2, 1) ∧ 1208 + 1 = 1209 := ⟨by decide +kernel, rfl⟩
set_option maxRecDepth 20000 in
theorem dL_law_1209 : decode cL_law 1209 = .ok (.iadd, 1) ∧ 1209 + 1 = 1210 := ⟨by decide +kernel, rfl⟩
set_option maxRecDepth 20000 in
theorem dL_law_1210 : decode cL_law 1210 = .ok (.iaload, 1) ∧ 1210 + 1 = 1211 := ⟨by decide +kernel, rfl⟩
set_option maxRecDepth 20000 in
theorem dL_law_1211 : decode cL_law 1211 = .ok (.aload_n 0, 1) ∧ 1211 + 1 = 1212 := ⟨by decide +kernel, rfl⟩
set_option maxRecDepth 20000 in
theorem dL_law_1212 : decode cL_law 1212 = .ok (.iload_n 3, 1) ∧ 1212 + 1 = 1213 := ⟨by decide +kernel, rfl⟩
set_option maxRecDepth 20000 in
theorem dL_law_1213 : decode cL_law 1213 = .ok (.iconst 3, 1) ∧ 1213 + 1 = 1214 := ⟨by decide +kernel, rfl⟩
set_option maxRecDepth 20000 in
theorem dL_law_1214 : decode cL_law 1214 = .ok (.iadd, 1) ∧ 1214 + 1 = 1215 := ⟨by decide +kernel, rfl⟩
set_option maxRecDepth 20000 in
theorem dL_law_1215 : decode cL_law 1215 = .ok (.iaload, 1) ∧ 1215 + 1 = 1216 := ⟨by decide +kernel, rfl⟩
set_option maxRecDepth 20000 in
theorem dL_law_1216 : decode cL_law 1216 = .ok (.invokevirtual 151, 3) ∧ 1216 + 3 = 1219 := ⟨by decide +kernel, rfl⟩
set_option maxRecDepth 20000 in
theorem dL_law_1219 : decode cL_law 1219 = .ok (.if_icmp .eq 267, 3) ∧ 1219 + 3 = 1222 ∧ ((1219 : Nat) : Int) + (267) = ((1486 : Nat) : Int) := ⟨by decide +kernel, rfl, by decide⟩
set_option maxRecDepth 20000 in
theorem dL_law_1222 : decode cL_law 1222 = .ok (.iconst 0, 1) ∧ 1222 + 1 = 1223 := ⟨by decide +kernel, rfl⟩
set_option maxRecDepth 20000 in
theorem dL_law_1223 : decode cL_law 1223 = .ok (.ireturn, 1) := by decide +kernel
set_option maxRecDepth 20000 in
theorem dL_law_1224 : decode cL_law 1224 = .ok (.aload_n 1, 1) ∧ 1224 + 1 = 1225 := ⟨by decide +kernel, rfl⟩
set_option maxRecDepth 20000 in
theorem dL_law_1225 : decode cL_law 1225 = .ok (.aload_n 0, 1) ∧ 1225 + 1 = 1226 := ⟨by decide +kernel, rfl⟩
set_option maxRecDepth 20000 in
theorem dL_law_1226 : decode cL_law 1226 = .ok (.iload_n 3, 1) ∧ 1226 + 1 = 1227 := ⟨by decide +kernel, rfl⟩
set_option maxRecDepth 20000 in
theorem dL_law_1227 : decode cL_law 1227 = .ok (.iconst 1, 1) ∧ 1227 + 1 = 1228 := ⟨by decide +kernel, rfl⟩
set_option maxRecDepth 20000 in
theorem dL_law_1228 : decode cL_law 1228 = .ok (.iadd, 1) ∧ 1228 + 1 = 1229 := ⟨by decide +kernel, rfl⟩
set_option maxRecDepth 20000 in
theorem dL_law_1229 : decode cL_law 1229 = .ok (.iaload, 1) ∧ 1229 + 1 = 1230 := ⟨by decide +kernel, rfl⟩
set_option maxRecDepth 20000 in
theorem dL_law_1230 : decode cL_law 1230 = .ok (.aload_n 0, 1) ∧ 1230 + 1 = 1231 := ⟨by decide +kernel, rfl⟩
set_option maxRecDepth 20000 in
theorem dL_law_1231 : decode cL_law 1231 = .ok (.iload_n 3, 1) ∧ 1231 + 1 = 1232 := ⟨by decide +kernel, rfl⟩
set_option maxRecDepth 20000 in
theorem dL_law_1232 : decode cL_law 1232 = .ok (.iconst 2, 1) ∧ 1232 + 1 = 1233 := ⟨by decide +kernel, rfl⟩
set_option maxRecDepth 20000 in
theorem dL_law_1233 : decode cL_law 1233 = .ok (.iadd, 1) ∧ 1233 + 1 = 1234 := ⟨by decide +kernel, rfl⟩
set_option maxRecDepth 20000 in
theorem dL_law_1234 : decode cL_law 1234 = .ok (.iaload, 1) ∧ 1234 + 1 = 1235 := ⟨by decide +kernel, rfl⟩
set_option maxRecDepth 20000 in
theorem dL_law_1235 : decode cL_law 1235 = .ok (.invokevirtual 152, 3) ∧ 1235 + 3 = 1238 := ⟨by decide +kernel, rfl⟩
set_option maxRecDepth 20000 in
theorem dL_law_1238 : decode cL_law 1238 = .ok (.aload_n 2, 1) ∧ 1238 + 1 = 1239 := ⟨by decide +kernel, rfl⟩
set_option maxRecDepth 20000 in
theorem dL_law_1239 : decode cL_law 1239 = .ok (.aload_n 0, 1) ∧ 1239 + 1 = 1240 := ⟨by decide +kernel, rfl⟩
set_option maxRecDepth 20000 in
theorem dL_law_1240 : decode cL_law 1240 = .ok (.iload_n 3, 1) ∧ 1240 + 1 = 1241 := ⟨by decide +kernel, rfl⟩
set_option maxRecDepth 20000 in
theorem dL_law_1241 : decode cL_law 1241 = .ok (.iconst 1, 1) ∧ 1241 + 1 = 1242 := ⟨by decide +kernel, rfl⟩
set_option maxRecDepth 20000 in
theorem dL_law_1242 : decode cL_law 1242 = .ok (.iadd, 1) ∧ 1242 + 1 = 1243 := ⟨by decide +kernel, rfl⟩
set_option maxRecDepth 20000 in
theorem dL_law_1243 : decode cL_law 1243 = .ok (.iaload, 1) ∧ 1243 + 1 = 1244 := ⟨by decide +kernel, rfl⟩
set_option maxRecDepth 20000 in
theorem dL_law_1244 : decode cL_law 1244 = .ok (.aload_n 0, 1) ∧ 1244 + 1 = 1245 := ⟨by decide +kernel, rfl⟩
set_option maxRecDepth 20000 in
theorem dL_law_1245 : decode cL_law 1245 = .ok (.iload_n 3, 1) ∧ 1245 + 1 = 1246 := ⟨by decide +kernel, rfl⟩
set_option maxRecDepth 20000 in
theorem dL_law_1246 : decode cL_law 1246 = .ok (.iconst 2, 1) ∧ 1246 + 1 = 1247 := ⟨by decide +kernel, rfl⟩
set_option maxRecDepth 20000 in
theorem dL_law_1247 : decode cL_law 1247 = .ok (.iadd, 1) ∧ 1247 + 1 = 1248 := ⟨by decide +kernel, rfl⟩
set_option maxRecDepth 20000 in
theorem dL_law_1248 : decode cL_law 1248 = .ok (.iaload, 1) ∧ 1248 + 1 = 1249 := ⟨by decide +kernel, rfl⟩
set_option maxRecDepth 20000 in
theorem dL_law_1249 : decode cL_law 1249 = .ok (.invokevirtual 155, 3) ∧ 1249 + 3 = 1252 := ⟨by decide +kernel, rfl⟩
set_option maxRecDepth 20000 in
theorem dL_law_1252 : decode cL_law 1252 = .ok (.lcmp, 1) ∧ 1252 + 1 = 1253 := ⟨by decide +kernel, rfl⟩
set_option maxRecDepth 20000 in
theorem dL_law_1253 : decode cL_law 1253 = .ok (.ifCond .eq 233, 3) ∧ 1253 + 3 = 1256 ∧ ((1253 : Nat) : Int) + (233) = ((1486 : Nat) : Int) := ⟨by decide +kernel, rfl, by decide⟩
set_option maxRecDepth 20000 in
theorem dL_law_1256 : decode cL_law 1256 = .ok (.iconst 0, 1) ∧ 1256 + 1 = 1257 := ⟨by decide +kernel, rfl⟩
set_option maxRecDepth 20000 in
theorem dL_law_1257 : decode cL_law 1257 = .ok (.ireturn, 1) := by decide +kernel
set_option maxRecDepth 20000 in
theorem dL_law_1258 : decode cL_law 1258 = .ok (.aload_n 1, 1) ∧ 1258 + 1 = 1259 := ⟨by decide +kernel, rfl⟩
set_option maxRecDepth 20000 in
theorem dL_law_1259 : decode cL_law 1259 = .ok (.aload_n 0, 1) ∧ 1259 + 1 = 1260 := ⟨by decide +kernel, rfl⟩
set_option maxRecDepth 20000 in
theorem dL_law_1260 : decode cL_law 1260 = .ok (.iload_n 3, 1) ∧ 1260 + 1 = 1261 := ⟨by decide +kernel, rfl⟩
set_option maxRecDepth 20000 in
theorem dL_law_1261 : decode cL_law 1261 = .ok (.iconst 1, 1) ∧ 1261 + 1 = 1262 := ⟨by decide +kernel, rfl⟩
set_option maxRecDepth 20000 in
theorem dL_law_1262 : decode cL_law 1262 = .ok (.iadd, 1) ∧ 1262 + 1 = 1263 := ⟨by decide +kernel, rfl⟩
set_option maxRecDepth 20000 in
theorem dL_law_1263 : decode cL_law 1263 = .ok (.iaload, 1) ∧ 1263 + 1 = 1264 := ⟨by decide +kernel, rfl⟩
set_option maxRecDepth 20000 in
theorem dL_law_1264 : decode cL_law 1264 = .ok (.invokevirtual 156, 3) ∧ 1264 + 3 = 1267 := ⟨by decide +kernel, rfl⟩
set_option maxRecDepth 20000 in
theorem dL_law_1267 : decode cL_law 1267 = .ok (.aload_n 2, 1) ∧ 1267 + 1 = 1268 := ⟨by decide +kernel, rfl⟩
set_option maxRecDepth 20000 in
theorem dL_law_1268 : decode cL_law 1268 = .ok (.aload_n 0, 1) ∧ 1268 + 1 = 1269 := ⟨by decide +kernel, rfl⟩
set_option maxRecDepth 20000 in
theorem dL_law_1269 : decode cL_law 1269 = .ok (.iload_n 3, 1) ∧ 1269 + 1 = 1270 := ⟨by decide +kernel, rfl⟩
set_option maxRecDepth 20000 in
theorem dL_law_1270 : decode cL_law 1270 = .ok (.iconst 1, 1) ∧ 1270 + 1 = 1271 := ⟨by decide +kernel, rfl⟩
set_option maxRecDepth 20000 in
theorem dL_law_1271 : decode cL_law 1271 = .ok (.iadd, 1) ∧ 1271 + 1 = 1272 := ⟨by decide +kernel, rfl⟩
set_option maxRecDepth 20000 in
theorem dL_law_1272 : decode cL_law 1272 = .ok (.iaload, 1) ∧ 1272 + 1 = 1273 := ⟨by decide +kernel, rfl⟩
set_option maxRecDepth 20000 in
theorem dL_law_1273 : decode cL_law 1273 = .ok (.invokevirtual 159, 3) ∧ 1273 + 3 = 1276 := ⟨by decide +kernel, rfl⟩
set_option maxRecDepth 20000 in
theorem dL_law_1276 : decode cL_law 1276 = .ok (.if_icmp .eq 210, 3) ∧ 1276 + 3 = 1279 ∧ ((1276 : Nat) : Int) + (210) = ((1486 : Nat) : Int) := ⟨by decide +kernel, rfl, by decide⟩
set_option maxRecDepth 20000 in
theorem dL_law_1279 : decode cL_law 1279 = .ok (.iconst 0, 1) ∧ 1279 + 1 = 1280 := ⟨by decide +kernel, rfl⟩
set_option maxRecDepth 20000 in
theorem dL_law_1280 : decode cL_law 1280 = .ok (.ireturn, 1) := by decide +kernel
set_option maxRecDepth 20000 in
theorem dL_law_1281 : decode cL_law 1281 = .ok (.aload_n 1, 1) ∧ 1281 + 1 = 1282 := ⟨by decide +kernel, rfl⟩
set_option maxRecDepth 20000 in
theorem dL_law_1282 : decode cL_law 1282 = .ok (.aload_n 0, 1) ∧ 1282 + 1 = 1283 := ⟨by decide +kernel, rfl⟩
set_option maxRecDepth 20000 in
theorem dL_law_1283 : decode cL_law 1283 = .ok (.iload_n 3, 1) ∧ 1283 + 1 = 1284 := ⟨by decide +kernel, rfl⟩
set_option maxRecDepth 20000 in
theorem dL_law_1284 : decode cL_law 1284 = .ok (.iconst 1, 1) ∧ 1284 + 1 = 1285 := ⟨by decide +kernel, rfl⟩
set_option maxRecDepth 20000 in
theorem dL_law_1285 : decode cL_law 1285 = .ok (.iadd, 1) ∧ 1285 + 1 = 1286 := ⟨by decide +kernel, rfl⟩
set_option maxRecDepth 20000 in
theorem dL_law_1286 : decode cL_law 1286 = .ok (.iaload, 1) ∧ 1286 + 1 = 1287 := ⟨by decide +kernel, rfl⟩
set_option maxRecDepth 20000 in
theorem dL_law_1287 : decode cL_law 1287 = .ok (.aload_n 0, 1) ∧ 1287 + 1 = 1288 := ⟨by decide +kernel, rfl⟩
set_option maxRecDepth 20000 in
theorem dL_law_1288 : decode cL_law 1288 = .ok (.iload_n 3, 1) ∧ 1288 + 1 = 1289 := ⟨by decide +kernel, rfl⟩
set_option maxRecDepth 20000 in
theorem dL_law_1289 : decode cL_law 1289 = .ok (.iconst 2, 1) ∧ 1289 + 1 = 1290 := ⟨by decide +kernel, rfl⟩
set_option maxRecDepth 20000 in
theorem dL_law_1290 : decode cL_law 1290 = .ok (.iadd, 1) ∧ 1290 + 1 = 1291 := ⟨by decide +kernel, rfl⟩
set_option maxRecDepth 20000 in
theorem dL_law_1291 : decode cL_law 1291 = .ok (.iaload, 1) ∧ 1291 + 1 = 1292 := ⟨by decide +kernel, rfl⟩
set_option maxRecDepth 20000 in
theorem dL_law_1292 : decode cL_law 1292 = .ok (.aload_n 0, 1) ∧ 1292 + 1 = 1293 := ⟨by decide +kernel, rfl⟩
set_option maxRecDepth 20000 in
theorem dL_law_1293 : decode cL_law 1293 = .ok (.iload_n 3, 1) ∧ 1293 + 1 = 1294 := ⟨by decide +kernel, rfl⟩
set_option maxRecDepth 20000 in
theorem dL_law_1294 : decode cL_law 1294 = .ok (.iconst 3, 1) ∧ 1294 + 1 = 1295 := ⟨by decide +kernel, rfl⟩
set_option maxRecDepth 20000 in
theorem dL_law_1295 : decode cL_law 1295 = .ok (.iadd, 1) ∧ 1295 + 1 = 1296 := ⟨by decide +kernel, rfl⟩
set_option maxRecDepth 20000 in
theorem dL_law_1296 : decode cL_law 1296 = .ok (.iaload, 1) ∧ 1296 + 1 = 1297 := ⟨by decide +kernel, rfl⟩
set_option maxRecDepth 20000 in
theorem dL_law_1297 : decode cL_law 1297 = .ok (.invokevirtual 160, 3) ∧ 1297 + 3 = 1300 := ⟨by decide +kernel, rfl⟩
set_option maxRecDepth 20000 in
theorem dL_law_1300 : decode cL_law 1300 = .ok (.aload_n 2, 1) ∧ 1300 + 1 = 1301 := ⟨by decide +kernel, rfl⟩
set_option maxRecDepth 20000 in
theorem dL_law_1301 : decode cL_law 1301 = .ok (.aload_n 0, 1) ∧ 1301 + 1 = 1302 := ⟨by decide +kernel, rfl⟩
set_option maxRecDepth 20000 in
theorem dL_law_1302 : decode cL_law 1302 = .ok (.iload_n 3, 1) ∧ 1302 + 1 = 1303 := ⟨by decide +kernel, rfl⟩
set_option maxRecDepth 20000 in
theorem dL_law_1303 : decode cL_law 1303 = .ok (.iconst 1, 1) ∧ 1303 + 1 = 1304 := ⟨by decide +kernel, rfl⟩
set_option maxRecDepth 20000 in
theorem dL_law_1304 : decode cL_law 1304 = .ok (.iadd, 1) ∧ 1304 + 1 = 1305 := ⟨by decide +kernel, rfl⟩
set_option maxRecDepth 20000 in
theorem dL_law_1305 : decode cL_law 1305 = .ok (.iaload, 1) ∧ 1305 + 1 = 1306 := ⟨by decide +kernel, rfl⟩
set_option maxRecDepth 20000 in
theorem dL_law_1306 : decode cL_law 1306 = .ok (.aload_n 0, 1) ∧ 1306 + 1 = 1307 := ⟨by decide +kernel, rfl⟩
set_option maxRecDepth 20000 in
theorem dL_law_1307 : decode cL_law 1307 = .ok (.iload_n 3, 1) ∧ 1307 + 1 = 1308 := ⟨by decide +kernel, rfl⟩
set_option maxRecDepth 20000 in
theorem dL_law_1308 : decode cL_law 1308 = .ok (.iconst 2, 1) ∧ 1308 + 1 = 1309 := ⟨by decide +kernel, rfl⟩
set_option maxRecDepth 20000 in
theorem dL_law_1309 : decode cL_law 1309 = .ok (.iadd, 1) ∧ 1309 + 1 = 1310 := ⟨by decide +kernel, rfl⟩
set_option maxRecDepth 20000 in
theorem dL_law_1310 : decode cL_law 1310 = .ok (.iaload, 1) ∧ 1310 + 1 = 1311 := ⟨by decide +kernel, rfl⟩
set_option maxRecDepth 20000 in
theorem dL_law_1311 : decode cL_law 1311 = .ok (.aload_n 0, 1) ∧ 1311 + 1 = 1312 := ⟨by decide +kernel, rfl⟩
set_option maxRecDepth 20000 in
theorem dL_law_1312 : decode cL_law 1312 = .ok (.iload_n 3, 1) ∧ 1312 + 1 = 1313 := ⟨by decide +kernel, rfl⟩
set_option maxRecDepth 20000 in
theorem dL_law_1313 : decode cL_law 1313 = .ok (.iconst 3, 1) ∧ 1313 + 1 = 1314 := ⟨by decide +kernel, rfl⟩
set_option maxRecDepth 20000 in
theorem dL_law_1314 : decode cL_law 1314 = .ok (.iadd, 1) ∧ 1314 + 1 = 1315 := ⟨by decide +kernel, rfl⟩
set_option maxRecDepth 20000 in
theorem dL_law_1315 : decode cL_law 1315 = .ok (.iaload, 1) ∧ 1315 + 1 = 1316 := ⟨by decide +kernel, rfl⟩
set_option maxRecDepth 20000 in
theorem dL_law_1316 : decode cL_law 1316 = .ok (.invokevirtual 164, 3) ∧ 1316 + 3 = 1319 := ⟨by decide +kernel, rfl⟩
set_option maxRecDepth 20000 in
theorem dL_law_1319 : decode cL_law 1319 = .ok (.lcmp, 1) ∧ 1319 + 1 = 1320 := ⟨by decide +kernel, rfl⟩
set_option maxRecDepth 20000 in
theorem dL_law_1320 : decode cL_law 1320 = .ok (.ifCond .eq 166, 3) ∧ 1320 + 3 = 1323 ∧ ((1320 : Nat) : Int) + (166) = ((1486 : Nat) : Int) := ⟨by decide +kernel, rfl, by decide⟩
set_option maxRecDepth 20000 in
theorem dL_law_1323 : decode cL_law 1323 = .ok (.iconst 0, 1) ∧ 1323 + 1 = 1324 := ⟨by decide +kernel, rfl⟩
set_option maxRecDepth 20000 in
theorem dL_law_1324 : decode cL_law 1324 = .ok (.ireturn, 1) := by decide +kernel
set_option maxRecDepth 20000 in
theorem dL_law_1325 : decode cL_law 1325 = .ok (.aload_n 1, 1) ∧ 1325 + 1 = 1326 := ⟨by decide +kernel, rfl⟩
set_option maxRecDepth 20000 in
theorem dL_law_1326 : decode cL_law 1326 = .ok (.aload_n 0, 1) ∧ 1326 + 1 = 1327 := ⟨by decide +kernel, rfl⟩
set_option maxRecDepth 20000 in
theorem dL_law_1327 : decode cL_law 1327 = .ok (.iload_n 3, 1) ∧ 1327 + 1 = 1328 := ⟨by decide +kernel, rfl⟩
set_option maxRecDepth 20000 in
theorem dL_law_1328 : decode cL_law 1328 = .ok (.iconst 1, 1) ∧ 1328 + 1 = 1329 := ⟨by decide +kernel, rfl⟩
set_option maxRecDepth 20000 in
theorem dL_law_1329 : decode cL_law 1329 = .ok (.iadd, 1) ∧ 1329 + 1 = 1330 := ⟨by decide +kernel, rfl⟩
set_option maxRecDepth 20000 in
theorem dL_law_1330 : decode cL_law 1330 = .ok (.iaload, 1) ∧ 1330 + 1 = 1331 := ⟨by decide +kernel, rfl⟩
set_option maxRecDepth 20000 in
theorem dL_law_1331 : decode cL_law 1331 = .ok (.invokevirtual 165, 3) ∧ 1331 + 3 = 1334 := ⟨by decide +kernel, rfl⟩
set_option maxRecDepth 20000 in
theorem dL_law_1334 : decode cL_law 1334 = .ok (.aload_n 2, 1) ∧ 1334 + 1 = 1335 := ⟨by decide +kernel, rfl⟩
set_option maxRecDepth 20000 in
theorem dL_law_1335 : decode cL_law 1335 = .ok (.aload_n 0, 1) ∧ 1335 + 1 = 1336 := ⟨by decide +kernel, rfl⟩
set_option maxRecDepth 20000 in
theorem dL_law_1336 : decode cL_law 1336 = .ok (.iload_n 3, 1) ∧ 1336 + 1 = 1337 := ⟨by decide +kernel, rfl⟩
set_option maxRecDepth 20000 in
theorem dL_law_1337 : decode cL_law 1337 = .ok (.iconst 1, 1) ∧ 1337 + 1 = 1338 := ⟨by decide +kernel, rfl⟩
set_option maxRecDepth 20000 in
theorem dL_law_1338 : decode cL_law 1338 = .ok (.iadd, 1) ∧ 1338 + 1 = 1339 := ⟨by decide +kernel, rfl⟩
set_option maxRecDepth 20000 in
theorem dL_law_1339 : decode cL_law 1339 = .ok (.iaload, 1) ∧ 1339 + 1 = 1340 := ⟨by decide +kernel, rfl⟩
set_option maxRecDepth 20000 in
theorem dL_law_1340 : decode cL_law 1340 = .ok (.invokevirtual 168, 3) ∧ 1340 + 3 = 1343 := ⟨by decide +kernel, rfl⟩
set_option maxRecDepth 20000 in
theorem dL_law_1343 : decode cL_law 1343 = .ok (.if_icmp .eq 143, 3) ∧ 1343 + 3 = 1346 ∧ ((1343 : Nat) : Int) + (143) = ((1486 : Nat) : Int) := ⟨by decide +kernel, rfl, by decide⟩
set_option maxRecDepth 20000 in
theorem dL_law_1346 : decode cL_law 1346 = .ok (.iconst 0, 1) ∧ 1346 + 1 = 1347 := ⟨by decide +kernel, rfl⟩
set_option maxRecDepth 20000 in
theorem dL_law_1347 : decode cL_law 1347 = .ok (.ireturn, 1) := by decide +kernel
set_option maxRecDepth 20000 in
theorem dL_law_1348 : decode cL_law 1348 = .ok (.aload_n 1, 1) ∧ 1348 + 1 = 1349 := ⟨by decide +kernel, rfl⟩
set_option maxRecDepth 20000 in
theorem dL_law_1349 : decode cL_law 1349 = .ok (.aload_n 0, 1) ∧ 1349 + 1 = 1350 := ⟨by decide +kernel, rfl⟩
set_option maxRecDepth 20000 in
theorem dL_law_1350 : decode cL_law 1350 = .ok (.iload_n 3, 1) ∧ 1350 + 1 = 1351 := ⟨by decide +kernel, rfl⟩
set_option maxRecDepth 20000 in
theorem dL_law_1351 : decode cL_law 1351 = .ok (.iconst 1, 1) ∧ 1351 + 1 = 1352 := ⟨by decide +kernel, rfl⟩
set_option maxRecDepth 20000 in
theorem dL_law_1352 : decode cL_law 1352 = .ok (.iadd, 1) ∧ 1352 + 1 = 1353 := ⟨by decide +kernel, rfl⟩
set_option maxRecDepth 20000 in
theorem dL_law_1353 : decode cL_law 1353 = .ok (.iaload, 1) ∧ 1353 + 1 = 1354 := ⟨by decide +kernel, rfl⟩
set_option maxRecDepth 20000 in
theorem dL_law_1354 : decode cL_law 1354 = .ok (.invokevirtual 169, 3) ∧ 1354 + 3 = 1357 := ⟨by decide +kernel, rfl⟩
set_option maxRecDepth 20000 in
theorem dL_law_1357 : decode cL_law 1357 = .ok (.aload_n 2, 1) ∧ 1357 + 1 = 1358 := ⟨by decide +kernel, rfl⟩
set_option maxRecDepth 20000 in
theorem dL_law_1358 : decode cL_law 1358 = .ok (.aload_n 0, 1) ∧ 1358 + 1 = 1359 := ⟨by decide +kernel, rfl⟩
set_option maxRecDepth 20000 in
theorem dL_law_1359 : decode cL_law 1359 = .ok (.iload_n 3, 1) ∧ 1359 + 1 = 1360 := ⟨by decide +kernel, rfl⟩
set_option maxRecDepth 20000 in
theorem dL_law_1360 : decode cL_law 1360 = .ok (.iconst 1, 1) ∧ 1360 + 1 = 1361 := ⟨by decide +kernel, rfl⟩
set_option maxRecDepth 20000 in
theorem dL_law_1361 : decode cL_law 1361 = .ok (.iadd, 1) ∧ 1361 + 1 = 1362 := ⟨by decide +kernel, rfl⟩
set_option maxRecDepth 20000 in
theorem dL_law_1362 : decode cL_law 1362 = .ok (.iaload, 1) ∧ 1362 + 1 = 1363 := ⟨by decide +kernel, rfl⟩
set_option maxRecDepth 20000 in
theorem dL_law_1363 : decode cL_law 1363 = .ok (.invokevirtual 172, 3) ∧ 1363 + 3 = 1366 := ⟨by decide +kernel, rfl⟩
set_option maxRecDepth 20000 in
theorem dL_law_1366 : decode cL_law 1366 = .ok (.if_icmp .eq 120, 3) ∧ 1366 + 3 = 1369 ∧ ((1366 : Nat) : Int) + (120) = ((1486 : Nat) : Int) := ⟨by decide +kernel, rfl, by decide⟩
set_option maxRecDepth 20000 in
theorem dL_law_1369 : decode cL_law 1369 = .ok (.iconst 0, 1) ∧ 1369 + 1 = 1370 := ⟨by decide +kernel, rfl⟩
set_option maxRecDepth 20000 in
theorem dL_law_1370 : decode cL_law 1370 = .ok (.ireturn, 1) := by decide +kernel
set_option maxRecDepth 20000 in
theorem dL_law_1371 : decode cL_law 1371 = .ok (.aload_n 1, 1) ∧ 1371 + 1 = 1372 := ⟨by decide +kernel, rfl⟩
set_option maxRecDepth 20000 in
theorem dL_law_1372 : decode cL_law 1372 = .ok (.aload_n 0, 1) ∧ 1372 + 1 = 1373 := ⟨by decide +kernel, rfl⟩
set_option maxRecDepth 20000 in
theorem dL_law_1373 : decode cL_law 1373 = .ok (.iload_n 3, 1) ∧ 1373 + 1 = 1374 := ⟨by decide +kernel, rfl⟩
set_option maxRecDepth 20000 in
theorem dL_law_1374 : decode cL_law 1374 = .ok (.iconst 1, 1) ∧ 1374 + 1 = 1375 := ⟨by decide +kernel, rfl⟩
set_option maxRecDepth 20000 in
theorem dL_law_1375 : decode cL_law 1375 = .ok (.iadd, 1) ∧ 1375 + 1 = 1376 := ⟨by decide +kernel, rfl⟩
set_option maxRecDepth 20000 in
theorem dL_law_1376 : decode cL_law 1376 = .ok (.iaload, 1) ∧ 1376 + 1 = 1377 := ⟨by decide +kernel, rfl⟩
set_option maxRecDepth 20000 in
theorem dL_law_1377 : decode cL_law 1377 = .ok (.aload_n 0, 1) ∧ 1377 + 1 = 1378 := ⟨by decide +kernel, rfl⟩
set_option maxRecDepth 20000 in
theorem dL_law_1378 : decode cL_law 1378 = .ok (.iload_n 3, 1) ∧ 1378 + 1 = 1379 := ⟨by decide +kernel, rfl⟩
set_option maxRecDepth 20000 in
theorem dL_law_1379 : decode cL_law 1379 = .ok (.iconst 2, 1) ∧ 1379 + 1 = 1380 := ⟨by decide +kernel, rfl⟩
set_option maxRecDepth 20000 in
theorem dL_law_1380 : decode cL_law 1380 = .ok (.iadd, 1) ∧ 1380 + 1 = 1381 := ⟨by decide +kernel, rfl⟩
set_option maxRecDepth 20000 in
theorem dL_law_1381 : decode cL_law 1381 = .ok (.iaload, 1) ∧ 1381 + 1 = 1382 := ⟨by decide +kernel, rfl⟩
set_option maxRecDepth 20000 in
theorem dL_law_1382 : decode cL_law 1382 = .ok (.invokevirtual 173, 3) ∧ 1382 + 3 = 1385 := ⟨by decide +kernel, rfl⟩
set_option maxRecDepth 20000 in
theorem dL_law_1385 : decode cL_law 1385 = .ok (.aload_n 2, 1) ∧ 1385 + 1 = 1386 := ⟨by decide +kernel, rfl⟩
set_option maxRecDepth 20000 in
theorem dL_law_1386 : decode cL_law 1386 = .ok (.aload_n 0, 1) ∧ 1386 + 1 = 1387 := ⟨by decide +kernel, rfl⟩
set_option maxRecDepth 20000 in
theorem dL_law_1387 : decode cL_law 1387 = .ok (.iload_n 3, 1) ∧ 1387 + 1 = 1388 := ⟨by decide +kernel, rfl⟩
set_option maxRecDepth 20000 in
theorem dL_law_1388 : decode cL_law 1388 = .ok (.iconst 1, 1) ∧ 1388 + 1 = 1389 := ⟨by decide +kernel, rfl⟩
set_option maxRecDepth 20000 in
theorem dL_law_1389 : decode cL_law 1389 = .ok (.iadd, 1) ∧ 1389 + 1 = 1390 := ⟨by decide +kernel, rfl⟩
set_option maxRecDepth 20000 in
theorem dL_law_1390 : decode cL_law 1390 = .ok (.iaload, 1) ∧ 1390 + 1 = 1391 := ⟨by decide +kernel, rfl⟩
set_option maxRecDepth 20000 in
theorem dL_law_1391 : decode cL_law 1391 = .ok (.aload_n 0, 1) ∧ 1391 + 1 = 1392 := ⟨by decide +kernel, rfl⟩
set_option maxRecDepth 20000 in
theorem dL_law_1392 : decode cL_law 1392 = .ok (.iload_n 3, 1) ∧ 1392 + 1 = 1393 := ⟨by decide +kernel, rfl⟩
set_option maxRecDepth 20000 in
theorem dL_law_1393 : decode cL_law 1393 = .ok (.iconst 2, 1) ∧ 1393 + 1 = 1394 := ⟨by decide +kernel, rfl⟩
set_option maxRecDepth 20000 in
theorem dL_law_1394 : decode cL_law 1394 = .ok (.iadd, 1) ∧ 1394 + 1 = 1395 := ⟨by decide +kernel, rfl⟩
set_option maxRecDepth 20000 in
theorem dL_law_1395 : decode cL_law 1395 = .ok (.iaload, 1) ∧ 1395 + 1 = 1396 := ⟨by decide +kernel, rfl⟩
set_option maxRecDepth 20000 in
theorem dL_law_1396 : decode cL_law 1396 = .ok (.invokevirtual 176, 3) ∧ 1396 + 3 = 1399 := ⟨by decide +kernel, rfl⟩
set_option maxRecDepth 20000 in
theorem dL_law_1399 : decode cL_law 1399 = .ok (.if_icmp .eq 87, 3) ∧ 1399 + 3 = 1402 ∧ ((1399 : Nat) : Int) + (87) = ((1486 : Nat) : Int) := ⟨by decide +kernel, rfl, by decide⟩
set_option maxRecDepth 20000 in
theorem dL_law_1402 : decode cL_law 1402 = .ok (.iconst 0, 1) ∧ 1402 + 1 = 1403 := ⟨by decide +kernel, rfl⟩
set_option maxRecDepth 20000 in
theorem dL_law_1403 : decode cL_law 1403 = .ok (.ireturn, 1) := by decide +kernel
set_option maxRecDepth 20000 in
theorem dL_law_1404 : decode cL_law 1404 = .ok (.aload_n 1, 1) ∧ 1404 + 1 = 1405 := ⟨by decide +kernel, rfl⟩
set_option maxRecDepth 20000 in
theorem dL_law_1405 : decode cL_law 1405 = .ok (.aload_n 0, 1) ∧ 1405 + 1 = 1406 := ⟨by decide +kernel, rfl⟩
set_option maxRecDepth 20000 in
theorem dL_law_1406 : decode cL_law 1406 = .ok (.iload_n 3, 1) ∧ 1406 + 1 = 1407 := ⟨by decide +kernel, rfl⟩
set_option maxRecDepth 20000 in
theorem dL_law_1407 : decode cL_law 1407 = .ok (.iconst 1, 1) ∧ 1407 + 1 = 1408 := ⟨by decide +kernel, rfl⟩
set_option maxRecDepth 20000 in
theorem dL_law_1408 : decode cL_law 1408 = .ok (.iadd, 1) ∧ 1408 + 1 = 1409 := ⟨by decide +kernel, rfl⟩
set_option maxRecDepth 20000 in
theorem dL_law_1409 : decode cL_law 1409 = .ok (.iaload, 1) ∧ 1409 + 1 = 1410 := ⟨by decide +kernel, rfl⟩
set_option maxRecDepth 20000 in
theorem dL_law_1410 : decode cL_law 1410 = .ok (.invokevirtual 177, 3) ∧ 1410 + 3 = 1413 := ⟨by decide +kernel, rfl⟩
set_option maxRecDepth 20000 in
theorem dL_law_1413 : decode cL_law 1413 = .ok (.aload_n 2, 1) ∧ 1413 + 1 = 1414 := ⟨by decide +kernel, rfl⟩
set_option maxRecDepth 20000 in
theorem dL_law_1414 : decode cL_law 1414 = .ok (.aload_n 0, 1) ∧ 1414 + 1 = 1415 := ⟨by decide +kernel, rfl⟩
set_option maxRecDepth 20000 in
theorem dL_law_1415 : decode cL_law 1415 = .ok (.iload_n 3, 1) ∧ 1415 + 1 = 1416 := ⟨by decide +kernel, rfl⟩
set_option maxRecDepth 20000 in
theorem dL_law_1416 : decode cL_law 1416 = .ok (.iconst 1, 1) ∧ 1416 + 1 = 1417 := ⟨by decide +kernel, rfl⟩
set_option maxRecDepth 20000 in
theorem dL_law_1417 : decode cL_law 1417 = .ok (.iadd, 1) ∧ 1417 + 1 = 1418 := ⟨by decide +kernel, rfl⟩
set_option maxRecDepth 20000 in
theorem dL_law_1418 : decode cL_law 1418 = .ok (.iaload, 1) ∧ 1418 + 1 = 1419 := ⟨by decide +kernel, rfl⟩
set_option maxRecDepth 20000 in
theorem dL_law_1419 : decode cL_law 1419 = .ok (.invokevirtual 180, 3) ∧ 1419 + 3 = 1422 := ⟨by decide +kernel, rfl⟩
set_option maxRecDepth 20000 in
theorem dL_law_1422 : decode cL_law 1422 = .ok (.if_icmp .eq 64, 3) ∧ 1422 + 3 = 1425 ∧ ((1422 : Nat) : Int) + (64) = ((1486 : Nat) : Int) := ⟨by decide +kernel, rfl, by decide⟩
set_option maxRecDepth 20000 in
theorem dL_law_1425 : decode cL_law 1425 = .ok (.iconst 0, 1) ∧ 1425 + 1 = 1426 := ⟨by decide +kernel, rfl⟩
set_option maxRecDepth 20000 in
theorem dL_law_1426 : decode cL_law 1426 = .ok (.ireturn, 1) := by decide +kernel
set_option maxRecDepth 20000 in
theorem dL_law_1427 : decode cL_law 1427 = .ok (.aload_n 1, 1) ∧ 1427 + 1 = 1428 := ⟨by decide +kernel, rfl⟩
set_option maxRecDepth 20000 in
theorem dL_law_1428 : decode cL_law 1428 = .ok (.aload_n 0, 1) ∧ 1428 + 1 = 1429 := ⟨by decide +kernel, rfl⟩
set_option maxRecDepth 20000 in
theorem dL_law_1429 : decode cL_law 1429 = .ok (.iload_n 3, 1) ∧ 1429 + 1 = 1430 := ⟨by decide +kernel, rfl⟩
set_option maxRecDepth 20000 in
theorem dL_law_1430 : decode cL_law 1430 = .ok (.iconst 1, 1) ∧ 1430 + 1 = 1431 := ⟨by decide +kernel, rfl⟩
set_option maxRecDepth 20000 in
theorem dL_law_1431 : decode cL_law 1431 = .ok (.iadd, 1) ∧ 1431 + 1 = 1432 := ⟨by decide +kernel, rfl⟩
set_option maxRecDepth 20000 in
theorem dL_law_1432 : decode cL_law 1432 = .ok (.iaload, 1) ∧ 1432 + 1 = 1433 := ⟨by decide +kernel, rfl⟩
set_option maxRecDepth 20000 in
theorem dL_law_1433 : decode cL_law 1433 = .ok (.invokevirtual 181, 3) ∧ 1433 + 3 = 1436 := ⟨by decide +kernel, rfl⟩
set_option maxRecDepth 20000 in
theorem dL_law_1436 : decode cL_law 1436 = .ok (.aload_n 2, 1) ∧ 1436 + 1 = 1437 := ⟨by decide +kernel, rfl⟩
set_option maxRecDepth 20000 in
theorem dL_law_1437 : decode cL_law 1437 = .ok (.aload_n 0, 1) ∧ 1437 + 1 = 1438 := ⟨by decide +kernel, rfl⟩
set_option maxRecDepth 20000 in
theorem dL_law_1438 : decode cL_law 1438 = .ok (.iload_n 3, 1) ∧ 1438 + 1 = 1439 := ⟨by decide +kernel, rfl⟩
set_option maxRecDepth 20000 in
theorem dL_law_1439 : decode cL_law 1439 = .ok (.iconst 1, 1) ∧ 1439 + 1 = 1440 := ⟨by decide +kernel, rfl⟩
set_option maxRecDepth 20000 in
theorem dL_law_1440 : decode cL_law 1440 = .ok (.iadd, 1) ∧ 1440 + 1 = 1441 := ⟨by decide +kernel, rfl⟩
set_option maxRecDepth 20000 in
theorem dL_law_1441 : decode cL_law 1441 = .ok (.iaload, 1) ∧ 1441 + 1 = 1442 := ⟨by decide +kernel, rfl⟩
set_option maxRecDepth 20000 in
theorem dL_law_1442 : decode cL_law 1442 = .ok (.invokevirtual 184, 3) ∧ 1442 + 3 = 1445 := ⟨by decide +kernel, rfl⟩
set_option maxRecDepth 20000 in
theorem dL_law_1445 : decode cL_law 1445 = .ok (.if_icmp .eq 41, 3) ∧ 1445 + 3 = 1448 ∧ ((1445 : Nat) : Int) + (41) = ((1486 : Nat) : Int) := ⟨by decide +kernel, rfl, by decide⟩
set_option maxRecDepth 20000 in
theorem dL_law_1448 : decode cL_law 1448 = .ok (.iconst 0, 1) ∧ 1448 + 1 = 1449 := ⟨by decide +kernel, rfl⟩
set_option maxRecDepth 20000 in
theorem dL_law_1449 : decode cL_law 1449 = .ok (.ireturn, 1) := by decide +kernel
set_option maxRecDepth 20000 in
theorem dL_law_1450 : decode cL_law 1450 = .ok (.aload_n 1, 1) ∧ 1450 + 1 = 1451 := ⟨by decide +kernel, rfl⟩
set_option maxRecDepth 20000 in
theorem dL_law_1451 : decode cL_law 1451 = .ok (.aload_n 0, 1) ∧ 1451 + 1 = 1452 := ⟨by decide +kernel, rfl⟩
set_option maxRecDepth 20000 in
theorem dL_law_1452 : decode cL_law 1452 = .ok (.iload_n 3, 1) ∧ 1452 + 1 = 1453 := ⟨by decide +kernel, rfl⟩
set_option maxRecDepth 20000 in
theorem dL_law_1453 : decode cL_law 1453 = .ok (.iconst 1, 1) ∧ 1453 + 1 = 1454 := ⟨by decide +kernel, rfl⟩
set_option maxRecDepth 20000 in
theorem dL_law_1454 : decode cL_law 1454 = .ok (.iadd, 1) ∧ 1454 + 1 = 1455 := ⟨by decide +kernel, rfl⟩
set_option maxRecDepth 20000 in
theorem dL_law_1455 : decode cL_law 1455 = .ok (.iaload, 1) ∧ 1455 + 1 = 1456 := ⟨by decide +kernel, rfl⟩
set_option maxRecDepth 20000 in
theorem dL_law_1456 : decode cL_law 1456 = .ok (.invokevirtual 185, 3) ∧ 1456 + 3 = 1459 := ⟨by decide +kernel, rfl⟩
set_option maxRecDepth 20000 in
theorem dL_law_1459 : decode cL_law 1459 = .ok (.aload_n 2, 1) ∧ 1459 + 1 = 1460 := ⟨by decide +kernel, rfl⟩
set_option maxRecDepth 20000 in
theorem dL_law_1460 : decode cL_law 1460 = .ok (.aload_n 0, 1) ∧ 1460 + 1 = 1461 := ⟨by decide +kernel, rfl⟩
set_option maxRecDepth 20000 in
theorem dL_law_1461 : decode cL_law 1461 = .ok (.iload_n 3, 1) ∧ 1461 + 1 = 1462 := ⟨by decide +kernel, rfl⟩
set_option maxRecDepth 20000 in
theorem dL_law_1462 : decode cL_law 1462 = .ok (.iconst 1, 1) ∧ 1462 + 1 = 1463 := ⟨by decide +kernel, rfl⟩
set_option maxRecDepth 20000 in
theorem dL_law_1463 : decode cL_law 1463 = .ok (.iadd, 1) ∧ 1463 + 1 = 1464 := ⟨by decide +kernel, rfl⟩
set_option maxRecDepth 20000 in
theorem dL_law_1464 : decode cL_law 1464 = .ok (.iaload, 1) ∧ 1464 + 1 = 1465 := ⟨by decide +kernel, rfl⟩
set_option maxRecDepth 20000 in
theorem dL_law_1465 : decode cL_law 1465 = .ok (.invokevirtual 188, 3) ∧ 1465 + 3 = 1468 := ⟨by decide +kernel, rfl⟩
set_option maxRecDepth 20000 in
theorem dL_law_1468 : decode cL_law 1468 = .ok (.if_icmp .eq 18, 3) ∧ 1468 + 3 = 1471 ∧ ((1468 : Nat) : Int) + (18) = ((1486 : Nat) : Int) := ⟨by decide +kernel, rfl, by decide⟩
set_option maxRecDepth 20000 in
theorem dL_law_1471 : decode cL_law 1471 = .ok (.iconst 0, 1) ∧ 1471 + 1 = 1472 := ⟨by decide +kernel, rfl⟩
set_option maxRecDepth 20000 in
theorem dL_law_1472 : decode cL_law 1472 = .ok (.ireturn, 1) := by decide +kernel
set_option maxRecDepth 20000 in
theorem dL_law_1473 : decode cL_law 1473 = .ok (.aload_n 1, 1) ∧ 1473 + 1 = 1474 := ⟨by decide +kernel, rfl⟩
set_option maxRecDepth 20000 in
theorem dL_law_1474 : decode cL_law 1474 = .ok (.invokevirtual 189, 3) ∧ 1474 + 3 = 1477 := ⟨by decide +kernel, rfl⟩
set_option maxRecDepth 20000 in
theorem dL_law_1477 : decode cL_law 1477 = .ok (.aload_n 2, 1) ∧ 1477 + 1 = 1478 := ⟨by decide +kernel, rfl⟩
set_option maxRecDepth 20000 in
theorem dL_law_1478 : decode cL_law 1478 = .ok (.invokevirtual 192, 3) ∧ 1478 + 3 = 1481 := ⟨by decide +kernel, rfl⟩
set_option maxRecDepth 20000 in
theorem dL_law_1481 : decode cL_law 1481 = .ok (.if_icmp .eq 5, 3) ∧ 1481 + 3 = 1484 ∧ ((1481 : Nat) : Int) + (5) = ((1486 : Nat) : Int) := ⟨by decide +kernel, rfl, by decide⟩
set_option maxRecDepth 20000 in
theorem dL_law_1484 : decode cL_law 1484 = .ok (.iconst 0, 1) ∧ 1484 + 1 = 1485 := ⟨by decide +kernel, rfl⟩
set_option maxRecDepth 20000 in
theorem dL_law_1485 : decode cL_law 1485 = .ok (.ireturn, 1) := by decide +kernel
set_option maxRecDepth 20000 in
theorem dL_law_1486 : decode cL_law 1486 = .ok (.iinc 3 6, 3) ∧ 1486 + 3 = 1489 := ⟨by decide +kernel, rfl⟩
set_option maxRecDepth 20000 in
theorem dL_law_1489 : decode cL_law 1489 = .ok (.goto (-1471), 3) ∧ ((1489 : Nat) : Int) + (-1471) = ((18 : Nat) : Int) := ⟨by decide +kernel, by decide⟩
set_option maxRecDepth 20000 in
theorem dL_law_1492 : decode cL_law 1492 = .ok (.iconst 1, 1) ∧ 1492 + 1 = 1493 := ⟨by decide +kernel, rfl⟩
set_option maxRecDepth 20000 in
theorem dL_law_1493 : decode cL_law 1493 = .ok (.ireturn, 1) := by decide +kernel
