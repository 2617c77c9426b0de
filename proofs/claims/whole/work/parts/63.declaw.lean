theorem dL_law_0 {nm : String} : DI (mLn nm) 0 (.new 7) 3 3 := ⟨(show decode code 0 = _ from by decide +kernel), rfl⟩
theorem dL_law_3 {nm : String} : DI (mLn nm) 3 (.dup) 1 4 := ⟨(show decode code 3 = _ from by decide +kernel), rfl⟩
theorem dL_law_4 {nm : String} : DI (mLn nm) 4 (.invokespecial 9) 3 7 := ⟨(show decode code 4 = _ from by decide +kernel), rfl⟩
theorem dL_law_7 {nm : String} : DSa (mLn nm) 7 1 8 := ⟨Nat.le_of_ble_eq_true rfl, Or.inl ⟨1, (show decode code 7 = _ from by decide +kernel), rfl, rfl⟩⟩
theorem dL_law_8 {nm : String} : DI (mLn nm) 8 (.new 10) 3 11 := ⟨(show decode code 8 = _ from by decide +kernel), rfl⟩
theorem dL_law_11 {nm : String} : DI (mLn nm) 11 (.dup) 1 12 := ⟨(show decode code 11 = _ from by decide +kernel), rfl⟩
theorem dL_law_12 {nm : String} : DI (mLn nm) 12 (.invokespecial 12) 3 15 := ⟨(show decode code 12 = _ from by decide +kernel), rfl⟩
theorem dL_law_15 {nm : String} : DSa (mLn nm) 15 2 16 := ⟨Nat.le_of_ble_eq_true rfl, Or.inl ⟨2, (show decode code 15 = _ from by decide +kernel), rfl, rfl⟩⟩
theorem dL_law_16 {nm : String} : DC (mLn nm) 16 0 17 := Or.inl ⟨0, (show decode code 16 = _ from by decide +kernel), by decide, rfl⟩
theorem dL_law_17 {nm : String} : DSi (mLn nm) 17 3 18 := ⟨Nat.le_of_ble_eq_true rfl, Or.inl ⟨3, (show decode code 17 = _ from by decide +kernel), rfl, rfl⟩⟩
theorem dL_law_18 {nm : String} : DLi (mLn nm) 18 3 19 := Or.inl ⟨3, (show decode code 18 = _ from by decide +kernel), rfl, rfl⟩
theorem dL_law_19 {nm : String} : DLa (mLn nm) 19 0 20 := Or.inl ⟨0, (show decode code 19 = _ from by decide +kernel), rfl, rfl⟩
theorem dL_law_20 {nm : String} : DI (mLn nm) 20 (.arraylength) 1 21 := ⟨(show decode code 20 = _ from by decide +kernel), rfl⟩
theorem dL_law_21 {nm : String} : DC (mLn nm) 21 6 23 := Or.inr (Or.inl ⟨6, (show decode code 21 = _ from by decide +kernel), by decide, rfl⟩)
theorem dL_law_23 {nm : String} : DI (mLn nm) 23 (.isub) 1 24 := ⟨(show decode code 23 = _ from by decide +kernel), rfl⟩
theorem dL_law_24 {nm : String} : DB (mLn nm) 24 (.if_icmp .gt (1457)) (1457) 27 1481 := ⟨(show decode code 24 = _ from by decide +kernel), rfl, by decide⟩
theorem dL_law_27 {nm : String} : DLa (mLn nm) 27 0 28 := Or.inl ⟨0, (show decode code 27 = _ from by decide +kernel), rfl, rfl⟩
theorem dL_law_28 {nm : String} : DLi (mLn nm) 28 3 29 := Or.inl ⟨3, (show decode code 28 = _ from by decide +kernel), rfl, rfl⟩
theorem dL_law_29 {nm : String} : DI (mLn nm) 29 (.iaload) 1 30 := ⟨(show decode code 29 = _ from by decide +kernel), rfl⟩
theorem dL_law_30 {nm : String} : DC (mLn nm) 30 63 32 := Or.inr (Or.inl ⟨63, (show decode code 30 = _ from by decide +kernel), by decide, rfl⟩)
theorem dL_law_32 {nm : String} : DI (mLn nm) 32 (.iand) 1 33 := ⟨(show decode code 32 = _ from by decide +kernel), rfl⟩
theorem dL_law_33 {nm : String} : decode (mLn nm).1 33 = .ok (.tableswitch (1442) (0) (38) #[171, 204, 247, 290, 323, 346, 359, 382, 406, 459, 502, 535, 568, 601, 635, 678, 711, 744, 777, 810, 844, 887, 930, 953, 976, 999, 1012, 1025, 1038, 1051, 1074, 1117, 1140, 1173, 1216, 1289, 1323, 1386, 1419], 171) := (show decode code 33 = _ from by decide +kernel)
theorem dL_law_204 {nm : String} : DLa (mLn nm) 204 1 205 := Or.inl ⟨1, (show decode code 204 = _ from by decide +kernel), rfl, rfl⟩
theorem dL_law_205 {nm : String} : DLa (mLn nm) 205 0 206 := Or.inl ⟨0, (show decode code 205 = _ from by decide +kernel), rfl, rfl⟩
theorem dL_law_206 {nm : String} : DLi (mLn nm) 206 3 207 := Or.inl ⟨3, (show decode code 206 = _ from by decide +kernel), rfl, rfl⟩
theorem dL_law_207 {nm : String} : DC (mLn nm) 207 1 208 := Or.inl ⟨1, (show decode code 207 = _ from by decide +kernel), by decide, rfl⟩
theorem dL_law_208 {nm : String} : DI (mLn nm) 208 (.iadd) 1 209 := ⟨(show decode code 208 = _ from by decide +kernel), rfl⟩
theorem dL_law_209 {nm : String} : DI (mLn nm) 209 (.iaload) 1 210 := ⟨(show decode code 209 = _ from by decide +kernel), rfl⟩
theorem dL_law_210 {nm : String} : DLa (mLn nm) 210 0 211 := Or.inl ⟨0, (show decode code 210 = _ from by decide +kernel), rfl, rfl⟩
theorem dL_law_211 {nm : String} : DLi (mLn nm) 211 3 212 := Or.inl ⟨3, (show decode code 211 = _ from by decide +kernel), rfl, rfl⟩
theorem dL_law_212 {nm : String} : DC (mLn nm) 212 2 213 := Or.inl ⟨2, (show decode code 212 = _ from by decide +kernel), by decide, rfl⟩
theorem dL_law_213 {nm : String} : DI (mLn nm) 213 (.iadd) 1 214 := ⟨(show decode code 213 = _ from by decide +kernel), rfl⟩
theorem dL_law_214 {nm : String} : DI (mLn nm) 214 (.iaload) 1 215 := ⟨(show decode code 214 = _ from by decide +kernel), rfl⟩
theorem dL_law_215 {nm : String} : DI (mLn nm) 215 (.invokevirtual 13) 3 218 := ⟨(show decode code 215 = _ from by decide +kernel), rfl⟩
theorem dL_law_218 {nm : String} : DLa (mLn nm) 218 2 219 := Or.inl ⟨2, (show decode code 218 = _ from by decide +kernel), rfl, rfl⟩
theorem dL_law_219 {nm : String} : DLa (mLn nm) 219 0 220 := Or.inl ⟨0, (show decode code 219 = _ from by decide +kernel), rfl, rfl⟩
theorem dL_law_220 {nm : String} : DLi (mLn nm) 220 3 221 := Or.inl ⟨3, (show decode code 220 = _ from by decide +kernel), rfl, rfl⟩
theorem dL_law_221 {nm : String} : DC (mLn nm) 221 1 222 := Or.inl ⟨1, (show decode code 221 = _ from by decide +kernel), by decide, rfl⟩
theorem dL_law_222 {nm : String} : DI (mLn nm) 222 (.iadd) 1 223 := ⟨(show decode code 222 = _ from by decide +kernel), rfl⟩
theorem dL_law_223 {nm : String} : DI (mLn nm) 223 (.iaload) 1 224 := ⟨(show decode code 223 = _ from by decide +kernel), rfl⟩
theorem dL_law_224 {nm : String} : DLa (mLn nm) 224 0 225 := Or.inl ⟨0, (show decode code 224 = _ from by decide +kernel), rfl, rfl⟩
theorem dL_law_225 {nm : String} : DLi (mLn nm) 225 3 226 := Or.inl ⟨3, (show decode code 225 = _ from by decide +kernel), rfl, rfl⟩
theorem dL_law_226 {nm : String} : DC (mLn nm) 226 2 227 := Or.inl ⟨2, (show decode code 226 = _ from by decide +kernel), by decide, rfl⟩
theorem dL_law_227 {nm : String} : DI (mLn nm) 227 (.iadd) 1 228 := ⟨(show decode code 227 = _ from by decide +kernel), rfl⟩
theorem dL_law_228 {nm : String} : DI (mLn nm) 228 (.iaload) 1 229 := ⟨(show decode code 228 = _ from by decide +kernel), rfl⟩
theorem dL_law_229 {nm : String} : DI (mLn nm) 229 (.invokevirtual 17) 3 232 := ⟨(show decode code 229 = _ from by decide +kernel), rfl⟩
theorem dL_law_232 {nm : String} : DB (mLn nm) 232 (.if_icmp .eq (1243)) (1243) 235 1475 := ⟨(show decode code 232 = _ from by decide +kernel), rfl, by decide⟩
theorem dL_law_235 {nm : String} : DC (mLn nm) 235 0 236 := Or.inl ⟨0, (show decode code 235 = _ from by decide +kernel), by decide, rfl⟩
theorem dL_law_236 {nm : String} : DRz (mLn nm) 236 := ⟨(show decode code 236 = _ from by decide +kernel), rfl⟩
theorem dL_law_237 {nm : String} : DLa (mLn nm) 237 1 238 := Or.inl ⟨1, (show decode code 237 = _ from by decide +kernel), rfl, rfl⟩
theorem dL_law_238 {nm : String} : DLa (mLn nm) 238 0 239 := Or.inl ⟨0, (show decode code 238 = _ from by decide +kernel), rfl, rfl⟩
theorem dL_law_239 {nm : String} : DLi (mLn nm) 239 3 240 := Or.inl ⟨3, (show decode code 239 = _ from by decide +kernel), rfl, rfl⟩
theorem dL_law_240 {nm : String} : DC (mLn nm) 240 1 241 := Or.inl ⟨1, (show decode code 240 = _ from by decide +kernel), by decide, rfl⟩
theorem dL_law_241 {nm : String} : DI (mLn nm) 241 (.iadd) 1 242 := ⟨(show decode code 241 = _ from by decide +kernel), rfl⟩
theorem dL_law_242 {nm : String} : DI (mLn nm) 242 (.iaload) 1 243 := ⟨(show decode code 242 = _ from by decide +kernel), rfl⟩
theorem dL_law_243 {nm : String} : DLa (mLn nm) 243 0 244 := Or.inl ⟨0, (show decode code 243 = _ from by decide +kernel), rfl, rfl⟩
theorem dL_law_244 {nm : String} : DLi (mLn nm) 244 3 245 := Or.inl ⟨3, (show decode code 244 = _ from by decide +kernel), rfl, rfl⟩
theorem dL_law_245 {nm : String} : DC (mLn nm) 245 2 246 := Or.inl ⟨2, (show decode code 245 = _ from by decide +kernel), by decide, rfl⟩
theorem dL_law_246 {nm : String} : DI (mLn nm) 246 (.iadd) 1 247 := ⟨(show decode code 246 = _ from by decide +kernel), rfl⟩
theorem dL_law_247 {nm : String} : DI (mLn nm) 247 (.iaload) 1 248 := ⟨(show decode code 247 = _ from by decide +kernel), rfl⟩
theorem dL_law_248 {nm : String} : DLa (mLn nm) 248 0 249 := Or.inl ⟨0, (show decode code 248 = _ from by decide +kernel), rfl, rfl⟩
theorem dL_law_249 {nm : String} : DLi (mLn nm) 249 3 250 := Or.inl ⟨3, (show decode code 249 = _ from by decide +kernel), rfl, rfl⟩
theorem dL_law_250 {nm : String} : DC (mLn nm) 250 3 251 := Or.inl ⟨3, (show decode code 250 = _ from by decide +kernel), by decide, rfl⟩
theorem dL_law_251 {nm : String} : DI (mLn nm) 251 (.iadd) 1 252 := ⟨(show decode code 251 = _ from by decide +kernel), rfl⟩
theorem dL_law_252 {nm : String} : DI (mLn nm) 252 (.iaload) 1 253 := ⟨(show decode code 252 = _ from by decide +kernel), rfl⟩
theorem dL_law_253 {nm : String} : DI (mLn nm) 253 (.invokevirtual 18) 3 256 := ⟨(show decode code 253 = _ from by decide +kernel), rfl⟩
theorem dL_law_256 {nm : String} : DLa (mLn nm) 256 2 257 := Or.inl ⟨2, (show decode code 256 = _ from by decide +kernel), rfl, rfl⟩
theorem dL_law_257 {nm : String} : DLa (mLn nm) 257 0 258 := Or.inl ⟨0, (show decode code 257 = _ from by decide +kernel), rfl, rfl⟩
theorem dL_law_258 {nm : String} : DLi (mLn nm) 258 3 259 := Or.inl ⟨3, (show decode code 258 = _ from by decide +kernel), rfl, rfl⟩
theorem dL_law_259 {nm : String} : DC (mLn nm) 259 1 260 := Or.inl ⟨1, (show decode code 259 = _ from by decide +kernel), by decide, rfl⟩
theorem dL_law_260 {nm : String} : DI (mLn nm) 260 (.iadd) 1 261 := ⟨(show decode code 260 = _ from by decide +kernel), rfl⟩
theorem dL_law_261 {nm : String} : DI (mLn nm) 261 (.iaload) 1 262 := ⟨(show decode code 261 = _ from by decide +kernel), rfl⟩
theorem dL_law_262 {nm : String} : DLa (mLn nm) 262 0 263 := Or.inl ⟨0, (show decode code 262 = _ from by decide +kernel), rfl, rfl⟩
theorem dL_law_263 {nm : String} : DLi (mLn nm) 263 3 264 := Or.inl ⟨3, (show decode code 263 = _ from by decide +kernel), rfl, rfl⟩
theorem dL_law_264 {nm : String} : DC (mLn nm) 264 2 265 := Or.inl ⟨2, (show decode code 264 = _ from by decide +kernel), by decide, rfl⟩
theorem dL_law_265 {nm : String} : DI (mLn nm) 265 (.iadd) 1 266 := ⟨(show decode code 265 = _ from by decide +kernel), rfl⟩
theorem dL_law_266 {nm : String} : DI (mLn nm) 266 (.iaload) 1 267 := ⟨(show decode code 266 = _ from by decide +kernel), rfl⟩
theorem dL_law_267 {nm : String} : DLa (mLn nm) 267 0 268 := Or.inl ⟨0, (show decode code 267 = _ from by decide +kernel), rfl, rfl⟩
theorem dL_law_268 {nm : String} : DLi (mLn nm) 268 3 269 := Or.inl ⟨3, (show decode code 268 = _ from by decide +kernel), rfl, rfl⟩
theorem dL_law_269 {nm : String} : DC (mLn nm) 269 3 270 := Or.inl ⟨3, (show decode code 269 = _ from by decide +kernel), by decide, rfl⟩
theorem dL_law_270 {nm : String} : DI (mLn nm) 270 (.iadd) 1 271 := ⟨(show decode code 270 = _ from by decide +kernel), rfl⟩
theorem dL_law_271 {nm : String} : DI (mLn nm) 271 (.iaload) 1 272 := ⟨(show decode code 271 = _ from by decide +kernel), rfl⟩
theorem dL_law_272 {nm : String} : DI (mLn nm) 272 (.invokevirtual 22) 3 275 := ⟨(show decode code 272 = _ from by decide +kernel), rfl⟩
theorem dL_law_275 {nm : String} : DB (mLn nm) 275 (.if_icmp .eq (1200)) (1200) 278 1475 := ⟨(show decode code 275 = _ from by decide +kernel), rfl, by decide⟩
theorem dL_law_278 {nm : String} : DC (mLn nm) 278 0 279 := Or.inl ⟨0, (show decode code 278 = _ from by decide +kernel), by decide, rfl⟩
theorem dL_law_279 {nm : String} : DRz (mLn nm) 279 := ⟨(show decode code 279 = _ from by decide +kernel), rfl⟩
theorem dL_law_280 {nm : String} : DLa (mLn nm) 280 1 281 := Or.inl ⟨1, (show decode code 280 = _ from by decide +kernel), rfl, rfl⟩
theorem dL_law_281 {nm : String} : DLa (mLn nm) 281 0 282 := Or.inl ⟨0, (show decode code 281 = _ from by decide +kernel), rfl, rfl⟩
theorem dL_law_282 {nm : String} : DLi (mLn nm) 282 3 283 := Or.inl ⟨3, (show decode code 282 = _ from by decide +kernel), rfl, rfl⟩
theorem dL_law_283 {nm : String} : DC (mLn nm) 283 1 284 := Or.inl ⟨1, (show decode code 283 = _ from by decide +kernel), by decide, rfl⟩
theorem dL_law_284 {nm : String} : DI (mLn nm) 284 (.iadd) 1 285 := ⟨(show decode code 284 = _ from by decide +kernel), rfl⟩
theorem dL_law_285 {nm : String} : DI (mLn nm) 285 (.iaload) 1 286 := ⟨(show decode code 285 = _ from by decide +kernel), rfl⟩
theorem dL_law_286 {nm : String} : DLa (mLn nm) 286 0 287 := Or.inl ⟨0, (show decode code 286 = _ from by decide +kernel), rfl, rfl⟩
theorem dL_law_287 {nm : String} : DLi (mLn nm) 287 3 288 := Or.inl ⟨3, (show decode code 287 = _ from by decide +kernel), rfl, rfl⟩
theorem dL_law_288 {nm : String} : DC (mLn nm) 288 2 289 := Or.inl ⟨2, (show decode code 288 = _ from by decide +kernel), by decide, rfl⟩
theorem dL_law_289 {nm : String} : DI (mLn nm) 289 (.iadd) 1 290 := ⟨(show decode code 289 = _ from by decide +kernel), rfl⟩
theorem dL_law_290 {nm : String} : DI (mLn nm) 290 (.iaload) 1 291 := ⟨(show decode code 290 = _ from by decide +kernel), rfl⟩
theorem dL_law_291 {nm : String} : DLa (mLn nm) 291 0 292 := Or.inl ⟨0, (show decode code 291 = _ from by decide +kernel), rfl, rfl⟩
theorem dL_law_292 {nm : String} : DLi (mLn nm) 292 3 293 := Or.inl ⟨3, (show decode code 292 = _ from by decide +kernel), rfl, rfl⟩
theorem dL_law_293 {nm : String} : DC (mLn nm) 293 3 294 := Or.inl ⟨3, (show decode code 293 = _ from by decide +kernel), by decide, rfl⟩
theorem dL_law_294 {nm : String} : DI (mLn nm) 294 (.iadd) 1 295 := ⟨(show decode code 294 = _ from by decide +kernel), rfl⟩
theorem dL_law_295 {nm : String} : DI (mLn nm) 295 (.iaload) 1 296 := ⟨(show decode code 295 = _ from by decide +kernel), rfl⟩
theorem dL_law_296 {nm : String} : DI (mLn nm) 296 (.invokevirtual 23) 3 299 := ⟨(show decode code 296 = _ from by decide +kernel), rfl⟩
theorem dL_law_299 {nm : String} : DLa (mLn nm) 299 2 300 := Or.inl ⟨2, (show decode code 299 = _ from by decide +kernel), rfl, rfl⟩
theorem dL_law_300 {nm : String} : DLa (mLn nm) 300 0 301 := Or.inl ⟨0, (show decode code 300 = _ from by decide +kernel), rfl, rfl⟩
theorem dL_law_301 {nm : String} : DLi (mLn nm) 301 3 302 := Or.inl ⟨3, (show decode code 301 = _ from by decide +kernel), rfl, rfl⟩
theorem dL_law_302 {nm : String} : DC (mLn nm) 302 1 303 := Or.inl ⟨1, (show decode code 302 = _ from by decide +kernel), by decide, rfl⟩
theorem dL_law_303 {nm : String} : DI (mLn nm) 303 (.iadd) 1 304 := ⟨(show decode code 303 = _ from by decide +kernel), rfl⟩
theorem dL_law_304 {nm : String} : DI (mLn nm) 304 (.iaload) 1 305 := ⟨(show decode code 304 = _ from by decide +kernel), rfl⟩
theorem dL_law_305 {nm : String} : DLa (mLn nm) 305 0 306 := Or.inl ⟨0, (show decode code 305 = _ from by decide +kernel), rfl, rfl⟩
theorem dL_law_306 {nm : String} : DLi (mLn nm) 306 3 307 := Or.inl ⟨3, (show decode code 306 = _ from by decide +kernel), rfl, rfl⟩
theorem dL_law_307 {nm : String} : DC (mLn nm) 307 2 308 := Or.inl ⟨2, (show decode code 307 = _ from by decide +kernel), by decide, rfl⟩
theorem dL_law_308 {nm : String} : DI (mLn nm) 308 (.iadd) 1 309 := ⟨(show decode code 308 = _ from by decide +kernel), rfl⟩
theorem dL_law_309 {nm : String} : DI (mLn nm) 309 (.iaload) 1 310 := ⟨(show decode code 309 = _ from by decide +kernel), rfl⟩
theorem dL_law_310 {nm : String} : DLa (mLn nm) 310 0 311 := Or.inl ⟨0, (show decode code 310 = _ from by decide +kernel), rfl, rfl⟩
theorem dL_law_311 {nm : String} : DLi (mLn nm) 311 3 312 := Or.inl ⟨3, (show decode code 311 = _ from by decide +kernel), rfl, rfl⟩
theorem dL_law_312 {nm : String} : DC (mLn nm) 312 3 313 := Or.inl ⟨3, (show decode code 312 = _ from by decide +kernel), by decide, rfl⟩
theorem dL_law_313 {nm : String} : DI (mLn nm) 313 (.iadd) 1 314 := ⟨(show decode code 313 = _ from by decide +kernel), rfl⟩
theorem dL_law_314 {nm : String} : DI (mLn nm) 314 (.iaload) 1 315 := ⟨(show decode code 314 = _ from by decide +kernel), rfl⟩
theorem dL_law_315 {nm : String} : DI (mLn nm) 315 (.invokevirtual 26) 3 318 := ⟨(show decode code 315 = _ from by decide +kernel), rfl⟩
theorem dL_law_318 {nm : String} : DB (mLn nm) 318 (.if_icmp .eq (1157)) (1157) 321 1475 := ⟨(show decode code 318 = _ from by decide +kernel), rfl, by decide⟩
theorem dL_law_321 {nm : String} : DC (mLn nm) 321 0 322 := Or.inl ⟨0, (show decode code 321 = _ from by decide +kernel), by decide, rfl⟩
theorem dL_law_322 {nm : String} : DRz (mLn nm) 322 := ⟨(show decode code 322 = _ from by decide +kernel), rfl⟩
theorem dL_law_323 {nm : String} : DLa (mLn nm) 323 1 324 := Or.inl ⟨1, (show decode code 323 = _ from by decide +kernel), rfl, rfl⟩
theorem dL_law_324 {nm : String} : DLa (mLn nm) 324 0 325 := Or.inl ⟨0, (show decode code 324 = _ from by decide +kernel), rfl, rfl⟩
theorem dL_law_325 {nm : String} : DLi (mLn nm) 325 3 326 := Or.inl ⟨3, (show decode code 325 = _ from by decide +kernel), rfl, rfl⟩
theorem dL_law_326 {nm : String} : DC (mLn nm) 326 1 327 := Or.inl ⟨1, (show decode code 326 = _ from by decide +kernel), by decide, rfl⟩
theorem dL_law_327 {nm : String} : DI (mLn nm) 327 (.iadd) 1 328 := ⟨(show decode code 327 = _ from by decide +kernel), rfl⟩
theorem dL_law_328 {nm : String} : DI (mLn nm) 328 (.iaload) 1 329 := ⟨(show decode code 328 = _ from by decide +kernel), rfl⟩
theorem dL_law_329 {nm : String} : DLa (mLn nm) 329 0 330 := Or.inl ⟨0, (show decode code 329 = _ from by decide +kernel), rfl, rfl⟩
theorem dL_law_330 {nm : String} : DLi (mLn nm) 330 3 331 := Or.inl ⟨3, (show decode code 330 = _ from by decide +kernel), rfl, rfl⟩
theorem dL_law_331 {nm : String} : DC (mLn nm) 331 2 332 := Or.inl ⟨2, (show decode code 331 = _ from by decide +kernel), by decide, rfl⟩
theorem dL_law_332 {nm : String} : DI (mLn nm) 332 (.iadd) 1 333 := ⟨(show decode code 332 = _ from by decide +kernel), rfl⟩
theorem dL_law_333 {nm : String} : DI (mLn nm) 333 (.iaload) 1 334 := ⟨(show decode code 333 = _ from by decide +kernel), rfl⟩
theorem dL_law_334 {nm : String} : DI (mLn nm) 334 (.invokevirtual 27) 3 337 := ⟨(show decode code 334 = _ from by decide +kernel), rfl⟩
theorem dL_law_337 {nm : String} : DLa (mLn nm) 337 2 338 := Or.inl ⟨2, (show decode code 337 = _ from by decide +kernel), rfl, rfl⟩
theorem dL_law_338 {nm : String} : DLa (mLn nm) 338 0 339 := Or.inl ⟨0, (show decode code 338 = _ from by decide +kernel), rfl, rfl⟩
theorem dL_law_339 {nm : String} : DLi (mLn nm) 339 3 340 := Or.inl ⟨3, (show decode code 339 = _ from by decide +kernel), rfl, rfl⟩
theorem dL_law_340 {nm : String} : DC (mLn nm) 340 1 341 := Or.inl ⟨1, (show decode code 340 = _ from by decide +kernel), by decide, rfl⟩
theorem dL_law_341 {nm : String} : DI (mLn nm) 341 (.iadd) 1 342 := ⟨(show decode code 341 = _ from by decide +kernel), rfl⟩
theorem dL_law_342 {nm : String} : DI (mLn nm) 342 (.iaload) 1 343 := ⟨(show decode code 342 = _ from by decide +kernel), rfl⟩
theorem dL_law_343 {nm : String} : DLa (mLn nm) 343 0 344 := Or.inl ⟨0, (show decode code 343 = _ from by decide +kernel), rfl, rfl⟩
theorem dL_law_344 {nm : String} : DLi (mLn nm) 344 3 345 := Or.inl ⟨3, (show decode code 344 = _ from by decide +kernel), rfl, rfl⟩
theorem dL_law_345 {nm : String} : DC (mLn nm) 345 2 346 := Or.inl ⟨2, (show decode code 345 = _ from by decide +kernel), by decide, rfl⟩
theorem dL_law_346 {nm : String} : DI (mLn nm) 346 (.iadd) 1 347 := ⟨(show decode code 346 = _ from by decide +kernel), rfl⟩
theorem dL_law_347 {nm : String} : DI (mLn nm) 347 (.iaload) 1 348 := ⟨(show decode code 347 = _ from by decide +kernel), rfl⟩
theorem dL_law_348 {nm : String} : DI (mLn nm) 348 (.invokevirtual 30) 3 351 := ⟨(show decode code 348 = _ from by decide +kernel), rfl⟩
theorem dL_law_351 {nm : String} : DB (mLn nm) 351 (.if_icmp .eq (1124)) (1124) 354 1475 := ⟨(show decode code 351 = _ from by decide +kernel), rfl, by decide⟩
theorem dL_law_354 {nm : String} : DC (mLn nm) 354 0 355 := Or.inl ⟨0, (show decode code 354 = _ from by decide +kernel), by decide, rfl⟩
theorem dL_law_355 {nm : String} : DRz (mLn nm) 355 := ⟨(show decode code 355 = _ from by decide +kernel), rfl⟩
theorem dL_law_356 {nm : String} : DLa (mLn nm) 356 1 357 := Or.inl ⟨1, (show decode code 356 = _ from by decide +kernel), rfl, rfl⟩
theorem dL_law_357 {nm : String} : DLa (mLn nm) 357 0 358 := Or.inl ⟨0, (show decode code 357 = _ from by decide +kernel), rfl, rfl⟩
theorem dL_law_358 {nm : String} : DLi (mLn nm) 358 3 359 := Or.inl ⟨3, (show decode code 358 = _ from by decide +kernel), rfl, rfl⟩
theorem dL_law_359 {nm : String} : DC (mLn nm) 359 1 360 := Or.inl ⟨1, (show decode code 359 = _ from by decide +kernel), by decide, rfl⟩
theorem dL_law_360 {nm : String} : DI (mLn nm) 360 (.iadd) 1 361 := ⟨(show decode code 360 = _ from by decide +kernel), rfl⟩
theorem dL_law_361 {nm : String} : DI (mLn nm) 361 (.iaload) 1 362 := ⟨(show decode code 361 = _ from by decide +kernel), rfl⟩
theorem dL_law_362 {nm : String} : DI (mLn nm) 362 (.invokevirtual 31) 3 365 := ⟨(show decode code 362 = _ from by decide +kernel), rfl⟩
theorem dL_law_365 {nm : String} : DLa (mLn nm) 365 2 366 := Or.inl ⟨2, (show decode code 365 = _ from by decide +kernel), rfl, rfl⟩
theorem dL_law_366 {nm : String} : DLa (mLn nm) 366 0 367 := Or.inl ⟨0, (show decode code 366 = _ from by decide +kernel), rfl, rfl⟩
theorem dL_law_367 {nm : String} : DLi (mLn nm) 367 3 368 := Or.inl ⟨3, (show decode code 367 = _ from by decide +kernel), rfl, rfl⟩
theorem dL_law_368 {nm : String} : DC (mLn nm) 368 1 369 := Or.inl ⟨1, (show decode code 368 = _ from by decide +kernel), by decide, rfl⟩
theorem dL_law_369 {nm : String} : DI (mLn nm) 369 (.iadd) 1 370 := ⟨(show decode code 369 = _ from by decide +kernel), rfl⟩
theorem dL_law_370 {nm : String} : DI (mLn nm) 370 (.iaload) 1 371 := ⟨(show decode code 370 = _ from by decide +kernel), rfl⟩
theorem dL_law_371 {nm : String} : DI (mLn nm) 371 (.invokevirtual 35) 3 374 := ⟨(show decode code 371 = _ from by decide +kernel), rfl⟩
theorem dL_law_374 {nm : String} : DB (mLn nm) 374 (.if_icmp .eq (1101)) (1101) 377 1475 := ⟨(show decode code 374 = _ from by decide +kernel), rfl, by decide⟩
theorem dL_law_377 {nm : String} : DC (mLn nm) 377 0 378 := Or.inl ⟨0, (show decode code 377 = _ from by decide +kernel), by decide, rfl⟩
theorem dL_law_378 {nm : String} : DRz (mLn nm) 378 := ⟨(show decode code 378 = _ from by decide +kernel), rfl⟩
theorem dL_law_379 {nm : String} : DLa (mLn nm) 379 1 380 := Or.inl ⟨1, (show decode code 379 = _ from by decide +kernel), rfl, rfl⟩
theorem dL_law_380 {nm : String} : DI (mLn nm) 380 (.invokevirtual 36) 3 383 := ⟨(show decode code 380 = _ from by decide +kernel), rfl⟩
theorem dL_law_383 {nm : String} : DLa (mLn nm) 383 2 384 := Or.inl ⟨2, (show decode code 383 = _ from by decide +kernel), rfl, rfl⟩
theorem dL_law_384 {nm : String} : DI (mLn nm) 384 (.invokevirtual 40) 3 387 := ⟨(show decode code 384 = _ from by decide +kernel), rfl⟩
theorem dL_law_387 {nm : String} : DB (mLn nm) 387 (.if_icmp .eq (1088)) (1088) 390 1475 := ⟨(show decode code 387 = _ from by decide +kernel), rfl, by decide⟩
theorem dL_law_390 {nm : String} : DC (mLn nm) 390 0 391 := Or.inl ⟨0, (show decode code 390 = _ from by decide +kernel), by decide, rfl⟩
theorem dL_law_391 {nm : String} : DRz (mLn nm) 391 := ⟨(show decode code 391 = _ from by decide +kernel), rfl⟩
theorem dL_law_392 {nm : String} : DLa (mLn nm) 392 1 393 := Or.inl ⟨1, (show decode code 392 = _ from by decide +kernel), rfl, rfl⟩
theorem dL_law_393 {nm : String} : DLa (mLn nm) 393 0 394 := Or.inl ⟨0, (show decode code 393 = _ from by decide +kernel), rfl, rfl⟩
theorem dL_law_394 {nm : String} : DLi (mLn nm) 394 3 395 := Or.inl ⟨3, (show decode code 394 = _ from by decide +kernel), rfl, rfl⟩
theorem dL_law_395 {nm : String} : DC (mLn nm) 395 1 396 := Or.inl ⟨1, (show decode code 395 = _ from by decide +kernel), by decide, rfl⟩
theorem dL_law_396 {nm : String} : DI (mLn nm) 396 (.iadd) 1 397 := ⟨(show decode code 396 = _ from by decide +kernel), rfl⟩
theorem dL_law_397 {nm : String} : DI (mLn nm) 397 (.iaload) 1 398 := ⟨(show decode code 397 = _ from by decide +kernel), rfl⟩
theorem dL_law_398 {nm : String} : DI (mLn nm) 398 (.invokevirtual 41) 3 401 := ⟨(show decode code 398 = _ from by decide +kernel), rfl⟩
theorem dL_law_401 {nm : String} : DLa (mLn nm) 401 2 402 := Or.inl ⟨2, (show decode code 401 = _ from by decide +kernel), rfl, rfl⟩
theorem dL_law_402 {nm : String} : DLa (mLn nm) 402 0 403 := Or.inl ⟨0, (show decode code 402 = _ from by decide +kernel), rfl, rfl⟩
theorem dL_law_403 {nm : String} : DLi (mLn nm) 403 3 404 := Or.inl ⟨3, (show decode code 403 = _ from by decide +kernel), rfl, rfl⟩
theorem dL_law_404 {nm : String} : DC (mLn nm) 404 1 405 := Or.inl ⟨1, (show decode code 404 = _ from by decide +kernel), by decide, rfl⟩
theorem dL_law_405 {nm : String} : DI (mLn nm) 405 (.iadd) 1 406 := ⟨(show decode code 405 = _ from by decide +kernel), rfl⟩
theorem dL_law_406 {nm : String} : DI (mLn nm) 406 (.iaload) 1 407 := ⟨(show decode code 406 = _ from by decide +kernel), rfl⟩
theorem dL_law_407 {nm : String} : DI (mLn nm) 407 (.invokevirtual 44) 3 410 := ⟨(show decode code 407 = _ from by decide +kernel), rfl⟩
theorem dL_law_410 {nm : String} : DB (mLn nm) 410 (.if_icmp .eq (1065)) (1065) 413 1475 := ⟨(show decode code 410 = _ from by decide +kernel), rfl, by decide⟩
theorem dL_law_413 {nm : String} : DC (mLn nm) 413 0 414 := Or.inl ⟨0, (show decode code 413 = _ from by decide +kernel), by decide, rfl⟩
theorem dL_law_414 {nm : String} : DRz (mLn nm) 414 := ⟨(show decode code 414 = _ from by decide +kernel), rfl⟩
theorem dL_law_415 {nm : String} : DLa (mLn nm) 415 1 416 := Or.inl ⟨1, (show decode code 415 = _ from by decide +kernel), rfl, rfl⟩
theorem dL_law_416 {nm : String} : DLa (mLn nm) 416 0 417 := Or.inl ⟨0, (show decode code 416 = _ from by decide +kernel), rfl, rfl⟩
theorem dL_law_417 {nm : String} : DLi (mLn nm) 417 3 418 := Or.inl ⟨3, (show decode code 417 = _ from by decide +kernel), rfl, rfl⟩
theorem dL_law_418 {nm : String} : DC (mLn nm) 418 1 419 := Or.inl ⟨1, (show decode code 418 = _ from by decide +kernel), by decide, rfl⟩
theorem dL_law_419 {nm : String} : DI (mLn nm) 419 (.iadd) 1 420 := ⟨(show decode code 419 = _ from by decide +kernel), rfl⟩
theorem dL_law_420 {nm : String} : DI (mLn nm) 420 (.iaload) 1 421 := ⟨(show decode code 420 = _ from by decide +kernel), rfl⟩
theorem dL_law_421 {nm : String} : DI (mLn nm) 421 (.invokevirtual 45) 3 424 := ⟨(show decode code 421 = _ from by decide +kernel), rfl⟩
theorem dL_law_424 {nm : String} : DLa (mLn nm) 424 2 425 := Or.inl ⟨2, (show decode code 424 = _ from by decide +kernel), rfl, rfl⟩
theorem dL_law_425 {nm : String} : DLa (mLn nm) 425 0 426 := Or.inl ⟨0, (show decode code 425 = _ from by decide +kernel), rfl, rfl⟩
theorem dL_law_426 {nm : String} : DLi (mLn nm) 426 3 427 := Or.inl ⟨3, (show decode code 426 = _ from by decide +kernel), rfl, rfl⟩
theorem dL_law_427 {nm : String} : DC (mLn nm) 427 1 428 := Or.inl ⟨1, (show decode code 427 = _ from by decide +kernel), by decide, rfl⟩
theorem dL_law_428 {nm : String} : DI (mLn nm) 428 (.iadd) 1 429 := ⟨(show decode code 428 = _ from by decide +kernel), rfl⟩
theorem dL_law_429 {nm : String} : DI (mLn nm) 429 (.iaload) 1 430 := ⟨(show decode code 429 = _ from by decide +kernel), rfl⟩
theorem dL_law_430 {nm : String} : DI (mLn nm) 430 (.invokevirtual 49) 3 433 := ⟨(show decode code 430 = _ from by decide +kernel), rfl⟩
theorem dL_law_433 {nm : String} : DI (mLn nm) 433 (.lcmp) 1 434 := ⟨(show decode code 433 = _ from by decide +kernel), rfl⟩
theorem dL_law_434 {nm : String} : DB (mLn nm) 434 (.ifCond .eq (1041)) (1041) 437 1475 := ⟨(show decode code 434 = _ from by decide +kernel), rfl, by decide⟩
theorem dL_law_437 {nm : String} : DC (mLn nm) 437 0 438 := Or.inl ⟨0, (show decode code 437 = _ from by decide +kernel), by decide, rfl⟩
theorem dL_law_438 {nm : String} : DRz (mLn nm) 438 := ⟨(show decode code 438 = _ from by decide +kernel), rfl⟩
theorem dL_law_439 {nm : String} : DLa (mLn nm) 439 1 440 := Or.inl ⟨1, (show decode code 439 = _ from by decide +kernel), rfl, rfl⟩
theorem dL_law_440 {nm : String} : DLa (mLn nm) 440 0 441 := Or.inl ⟨0, (show decode code 440 = _ from by decide +kernel), rfl, rfl⟩
theorem dL_law_441 {nm : String} : DLi (mLn nm) 441 3 442 := Or.inl ⟨3, (show decode code 441 = _ from by decide +kernel), rfl, rfl⟩
theorem dL_law_442 {nm : String} : DC (mLn nm) 442 1 443 := Or.inl ⟨1, (show decode code 442 = _ from by decide +kernel), by decide, rfl⟩
theorem dL_law_443 {nm : String} : DI (mLn nm) 443 (.iadd) 1 444 := ⟨(show decode code 443 = _ from by decide +kernel), rfl⟩
theorem dL_law_444 {nm : String} : DI (mLn nm) 444 (.iaload) 1 445 := ⟨(show decode code 444 = _ from by decide +kernel), rfl⟩
theorem dL_law_445 {nm : String} : DLa (mLn nm) 445 0 446 := Or.inl ⟨0, (show decode code 445 = _ from by decide +kernel), rfl, rfl⟩
theorem dL_law_446 {nm : String} : DLi (mLn nm) 446 3 447 := Or.inl ⟨3, (show decode code 446 = _ from by decide +kernel), rfl, rfl⟩
theorem dL_law_447 {nm : String} : DC (mLn nm) 447 2 448 := Or.inl ⟨2, (show decode code 447 = _ from by decide +kernel), by decide, rfl⟩
theorem dL_law_448 {nm : String} : DI (mLn nm) 448 (.iadd) 1 449 := ⟨(show decode code 448 = _ from by decide +kernel), rfl⟩
theorem dL_law_449 {nm : String} : DI (mLn nm) 449 (.iaload) 1 450 := ⟨(show decode code 449 = _ from by decide +kernel), rfl⟩
theorem dL_law_450 {nm : String} : DLa (mLn nm) 450 0 451 := Or.inl ⟨0, (show decode code 450 = _ from by decide +kernel), rfl, rfl⟩
theorem dL_law_451 {nm : String} : DLi (mLn nm) 451 3 452 := Or.inl ⟨3, (show decode code 451 = _ from by decide +kernel), rfl, rfl⟩
theorem dL_law_452 {nm : String} : DC (mLn nm) 452 3 453 := Or.inl ⟨3, (show decode code 452 = _ from by decide +kernel), by decide, rfl⟩
theorem dL_law_453 {nm : String} : DI (mLn nm) 453 (.iadd) 1 454 := ⟨(show decode code 453 = _ from by decide +kernel), rfl⟩
theorem dL_law_454 {nm : String} : DI (mLn nm) 454 (.iaload) 1 455 := ⟨(show decode code 454 = _ from by decide +kernel), rfl⟩
theorem dL_law_455 {nm : String} : DLa (mLn nm) 455 0 456 := Or.inl ⟨0, (show decode code 455 = _ from by decide +kernel), rfl, rfl⟩
theorem dL_law_456 {nm : String} : DLi (mLn nm) 456 3 457 := Or.inl ⟨3, (show decode code 456 = _ from by decide +kernel), rfl, rfl⟩
theorem dL_law_457 {nm : String} : DC (mLn nm) 457 4 458 := Or.inl ⟨4, (show decode code 457 = _ from by decide +kernel), by decide, rfl⟩
theorem dL_law_458 {nm : String} : DI (mLn nm) 458 (.iadd) 1 459 := ⟨(show decode code 458 = _ from by decide +kernel), rfl⟩
theorem dL_law_459 {nm : String} : DI (mLn nm) 459 (.iaload) 1 460 := ⟨(show decode code 459 = _ from by decide +kernel), rfl⟩
theorem dL_law_460 {nm : String} : DI (mLn nm) 460 (.invokevirtual 50) 3 463 := ⟨(show decode code 460 = _ from by decide +kernel), rfl⟩
theorem dL_law_463 {nm : String} : DLa (mLn nm) 463 2 464 := Or.inl ⟨2, (show decode code 463 = _ from by decide +kernel), rfl, rfl⟩
theorem dL_law_464 {nm : String} : DLa (mLn nm) 464 0 465 := Or.inl ⟨0, (show decode code 464 = _ from by decide +kernel), rfl, rfl⟩
theorem dL_law_465 {nm : String} : DLi (mLn nm) 465 3 466 := Or.inl ⟨3, (show decode code 465 = _ from by decide +kernel), rfl, rfl⟩
theorem dL_law_466 {nm : String} : DC (mLn nm) 466 1 467 := Or.inl ⟨1, (show decode code 466 = _ from by decide +kernel), by decide, rfl⟩
theorem dL_law_467 {nm : String} : DI (mLn nm) 467 (.iadd) 1 468 := ⟨(show decode code 467 = _ from by decide +kernel), rfl⟩
theorem dL_law_468 {nm : String} : DI (mLn nm) 468 (.iaload) 1 469 := ⟨(show decode code 468 = _ from by decide +kernel), rfl⟩
theorem dL_law_469 {nm : String} : DLa (mLn nm) 469 0 470 := Or.inl ⟨0, (show decode code 469 = _ from by decide +kernel), rfl, rfl⟩
theorem dL_law_470 {nm : String} : DLi (mLn nm) 470 3 471 := Or.inl ⟨3, (show decode code 470 = _ from by decide +kernel), rfl, rfl⟩
theorem dL_law_471 {nm : String} : DC (mLn nm) 471 2 472 := Or.inl ⟨2, (show decode code 471 = _ from by decide +kernel), by decide, rfl⟩
theorem dL_law_472 {nm : String} : DI (mLn nm) 472 (.iadd) 1 473 := ⟨(show decode code 472 = _ from by decide +kernel), rfl⟩
theorem dL_law_473 {nm : String} : DI (mLn nm) 473 (.iaload) 1 474 := ⟨(show decode code 473 = _ from by decide +kernel), rfl⟩
theorem dL_law_474 {nm : String} : DLa (mLn nm) 474 0 475 := Or.inl ⟨0, (show decode code 474 = _ from by decide +kernel), rfl, rfl⟩
theorem dL_law_475 {nm : String} : DLi (mLn nm) 475 3 476 := Or.inl ⟨3, (show decode code 475 = _ from by decide +kernel), rfl, rfl⟩
theorem dL_law_476 {nm : String} : DC (mLn nm) 476 3 477 := Or.inl ⟨3, (show decode code 476 = _ from by decide +kernel), by decide, rfl⟩
theorem dL_law_477 {nm : String} : DI (mLn nm) 477 (.iadd) 1 478 := ⟨(show decode code 477 = _ from by decide +kernel), rfl⟩
theorem dL_law_478 {nm : String} : DI (mLn nm) 478 (.iaload) 1 479 := ⟨(show decode code 478 = _ from by decide +kernel), rfl⟩
theorem dL_law_479 {nm : String} : DLa (mLn nm) 479 0 480 := Or.inl ⟨0, (show decode code 479 = _ from by decide +kernel), rfl, rfl⟩
theorem dL_law_480 {nm : String} : DLi (mLn nm) 480 3 481 := Or.inl ⟨3, (show decode code 480 = _ from by decide +kernel), rfl, rfl⟩
theorem dL_law_481 {nm : String} : DC (mLn nm) 481 4 482 := Or.inl ⟨4, (show decode code 481 = _ from by decide +kernel), by decide, rfl⟩
theorem dL_law_482 {nm : String} : DI (mLn nm) 482 (.iadd) 1 483 := ⟨(show decode code 482 = _ from by decide +kernel), rfl⟩
theorem dL_law_483 {nm : String} : DI (mLn nm) 483 (.iaload) 1 484 := ⟨(show decode code 483 = _ from by decide +kernel), rfl⟩
theorem dL_law_484 {nm : String} : DI (mLn nm) 484 (.invokevirtual 54) 3 487 := ⟨(show decode code 484 = _ from by decide +kernel), rfl⟩
theorem dL_law_487 {nm : String} : DB (mLn nm) 487 (.if_icmp .eq (988)) (988) 490 1475 := ⟨(show decode code 487 = _ from by decide +kernel), rfl, by decide⟩
theorem dL_law_490 {nm : String} : DC (mLn nm) 490 0 491 := Or.inl ⟨0, (show decode code 490 = _ from by decide +kernel), by decide, rfl⟩
theorem dL_law_491 {nm : String} : DRz (mLn nm) 491 := ⟨(show decode code 491 = _ from by decide +kernel), rfl⟩
theorem dL_law_492 {nm : String} : DLa (mLn nm) 492 1 493 := Or.inl ⟨1, (show decode code 492 = _ from by decide +kernel), rfl, rfl⟩
theorem dL_law_493 {nm : String} : DLa (mLn nm) 493 0 494 := Or.inl ⟨0, (show decode code 493 = _ from by decide +kernel), rfl, rfl⟩
theorem dL_law_494 {nm : String} : DLi (mLn nm) 494 3 495 := Or.inl ⟨3, (show decode code 494 = _ from by decide +kernel), rfl, rfl⟩
theorem dL_law_495 {nm : String} : DC (mLn nm) 495 1 496 := Or.inl ⟨1, (show decode code 495 = _ from by decide +kernel), by decide, rfl⟩
theorem dL_law_496 {nm : String} : DI (mLn nm) 496 (.iadd) 1 497 := ⟨(show decode code 496 = _ from by decide +kernel), rfl⟩
theorem dL_law_497 {nm : String} : DI (mLn nm) 497 (.iaload) 1 498 := ⟨(show decode code 497 = _ from by decide +kernel), rfl⟩
theorem dL_law_498 {nm : String} : DLa (mLn nm) 498 0 499 := Or.inl ⟨0, (show decode code 498 = _ from by decide +kernel), rfl, rfl⟩
theorem dL_law_499 {nm : String} : DLi (mLn nm) 499 3 500 := Or.inl ⟨3, (show decode code 499 = _ from by decide +kernel), rfl, rfl⟩
theorem dL_law_500 {nm : String} : DC (mLn nm) 500 2 501 := Or.inl ⟨2, (show decode code 500 = _ from by decide +kernel), by decide, rfl⟩
theorem dL_law_501 {nm : String} : DI (mLn nm) 501 (.iadd) 1 502 := ⟨(show decode code 501 = _ from by decide +kernel), rfl⟩
theorem dL_law_502 {nm : String} : DI (mLn nm) 502 (.iaload) 1 503 := ⟨(show decode code 502 = _ from by decide +kernel), rfl⟩
theorem dL_law_503 {nm : String} : DLa (mLn nm) 503 0 504 := Or.inl ⟨0, (show decode code 503 = _ from by decide +kernel), rfl, rfl⟩
theorem dL_law_504 {nm : String} : DLi (mLn nm) 504 3 505 := Or.inl ⟨3, (show decode code 504 = _ from by decide +kernel), rfl, rfl⟩
theorem dL_law_505 {nm : String} : DC (mLn nm) 505 3 506 := Or.inl ⟨3, (show decode code 505 = _ from by decide +kernel), by decide, rfl⟩
theorem dL_law_506 {nm : String} : DI (mLn nm) 506 (.iadd) 1 507 := ⟨(show decode code 506 = _ from by decide +kernel), rfl⟩
theorem dL_law_507 {nm : String} : DI (mLn nm) 507 (.iaload) 1 508 := ⟨(show decode code 507 = _ from by decide +kernel), rfl⟩
theorem dL_law_508 {nm : String} : DI (mLn nm) 508 (.invokevirtual 55) 3 511 := ⟨(show decode code 508 = _ from by decide +kernel), rfl⟩
theorem dL_law_511 {nm : String} : DLa (mLn nm) 511 2 512 := Or.inl ⟨2, (show decode code 511 = _ from by decide +kernel), rfl, rfl⟩
theorem dL_law_512 {nm : String} : DLa (mLn nm) 512 0 513 := Or.inl ⟨0, (show decode code 512 = _ from by decide +kernel), rfl, rfl⟩
theorem dL_law_513 {nm : String} : DLi (mLn nm) 513 3 514 := Or.inl ⟨3, (show decode code 513 = _ from by decide +kernel), rfl, rfl⟩
theorem dL_law_514 {nm : String} : DC (mLn nm) 514 1 515 := Or.inl ⟨1, (show decode code 514 = _ from by decide +kernel), by decide, rfl⟩
theorem dL_law_515 {nm : String} : DI (mLn nm) 515 (.iadd) 1 516 := ⟨(show decode code 515 = _ from by decide +kernel), rfl⟩
theorem dL_law_516 {nm : String} : DI (mLn nm) 516 (.iaload) 1 517 := ⟨(show decode code 516 = _ from by decide +kernel), rfl⟩
theorem dL_law_517 {nm : String} : DLa (mLn nm) 517 0 518 := Or.inl ⟨0, (show decode code 517 = _ from by decide +kernel), rfl, rfl⟩
theorem dL_law_518 {nm : String} : DLi (mLn nm) 518 3 519 := Or.inl ⟨3, (show decode code 518 = _ from by decide +kernel), rfl, rfl⟩
theorem dL_law_519 {nm : String} : DC (mLn nm) 519 2 520 := Or.inl ⟨2, (show decode code 519 = _ from by decide +kernel), by decide, rfl⟩
theorem dL_law_520 {nm : String} : DI (mLn nm) 520 (.iadd) 1 521 := ⟨(show decode code 520 = _ from by decide +kernel), rfl⟩
theorem dL_law_521 {nm : String} : DI (mLn nm) 521 (.iaload) 1 522 := ⟨(show decode code 521 = _ from by decide +kernel), rfl⟩
theorem dL_law_522 {nm : String} : DLa (mLn nm) 522 0 523 := Or.inl ⟨0, (show decode code 522 = _ from by decide +kernel), rfl, rfl⟩
theorem dL_law_523 {nm : String} : DLi (mLn nm) 523 3 524 := Or.inl ⟨3, (show decode code 523 = _ from by decide +kernel), rfl, rfl⟩
theorem dL_law_524 {nm : String} : DC (mLn nm) 524 3 525 := Or.inl ⟨3, (show decode code 524 = _ from by decide +kernel), by decide, rfl⟩
theorem dL_law_525 {nm : String} : DI (mLn nm) 525 (.iadd) 1 526 := ⟨(show decode code 525 = _ from by decide +kernel), rfl⟩
theorem dL_law_526 {nm : String} : DI (mLn nm) 526 (.iaload) 1 527 := ⟨(show decode code 526 = _ from by decide +kernel), rfl⟩
theorem dL_law_527 {nm : String} : DI (mLn nm) 527 (.invokevirtual 58) 3 530 := ⟨(show decode code 527 = _ from by decide +kernel), rfl⟩
theorem dL_law_530 {nm : String} : DB (mLn nm) 530 (.if_icmp .eq (945)) (945) 533 1475 := ⟨(show decode code 530 = _ from by decide +kernel), rfl, by decide⟩
theorem dL_law_533 {nm : String} : DC (mLn nm) 533 0 534 := Or.inl ⟨0, (show decode code 533 = _ from by decide +kernel), by decide, rfl⟩
theorem dL_law_534 {nm : String} : DRz (mLn nm) 534 := ⟨(show decode code 534 = _ from by decide +kernel), rfl⟩
theorem dL_law_535 {nm : String} : DLa (mLn nm) 535 1 536 := Or.inl ⟨1, (show decode code 535 = _ from by decide +kernel), rfl, rfl⟩
theorem dL_law_536 {nm : String} : DLa (mLn nm) 536 0 537 := Or.inl ⟨0, (show decode code 536 = _ from by decide +kernel), rfl, rfl⟩
theorem dL_law_537 {nm : String} : DLi (mLn nm) 537 3 538 := Or.inl ⟨3, (show decode code 537 = _ from by decide +kernel), rfl, rfl⟩
theorem dL_law_538 {nm : String} : DC (mLn nm) 538 1 539 := Or.inl ⟨1, (show decode code 538 = _ from by decide +kernel), by decide, rfl⟩
theorem dL_law_539 {nm : String} : DI (mLn nm) 539 (.iadd) 1 540 := ⟨(show decode code 539 = _ from by decide +kernel), rfl⟩
theorem dL_law_540 {nm : String} : DI (mLn nm) 540 (.iaload) 1 541 := ⟨(show decode code 540 = _ from by decide +kernel), rfl⟩
theorem dL_law_541 {nm : String} : DLa (mLn nm) 541 0 542 := Or.inl ⟨0, (show decode code 541 = _ from by decide +kernel), rfl, rfl⟩
theorem dL_law_542 {nm : String} : DLi (mLn nm) 542 3 543 := Or.inl ⟨3, (show decode code 542 = _ from by decide +kernel), rfl, rfl⟩
theorem dL_law_543 {nm : String} : DC (mLn nm) 543 2 544 := Or.inl ⟨2, (show decode code 543 = _ from by decide +kernel), by decide, rfl⟩
theorem dL_law_544 {nm : String} : DI (mLn nm) 544 (.iadd) 1 545 := ⟨(show decode code 544 = _ from by decide +kernel), rfl⟩
theorem dL_law_545 {nm : String} : DI (mLn nm) 545 (.iaload) 1 546 := ⟨(show decode code 545 = _ from by decide +kernel), rfl⟩
theorem dL_law_546 {nm : String} : DI (mLn nm) 546 (.invokevirtual 59) 3 549 := ⟨(show decode code 546 = _ from by decide +kernel), rfl⟩
theorem dL_law_549 {nm : String} : DLa (mLn nm) 549 2 550 := Or.inl ⟨2, (show decode code 549 = _ from by decide +kernel), rfl, rfl⟩
theorem dL_law_550 {nm : String} : DLa (mLn nm) 550 0 551 := Or.inl ⟨0, (show decode code 550 = _ from by decide +kernel), rfl, rfl⟩
theorem dL_law_551 {nm : String} : DLi (mLn nm) 551 3 552 := Or.inl ⟨3, (show decode code 551 = _ from by decide +kernel), rfl, rfl⟩
theorem dL_law_552 {nm : String} : DC (mLn nm) 552 1 553 := Or.inl ⟨1, (show decode code 552 = _ from by decide +kernel), by decide, rfl⟩
theorem dL_law_553 {nm : String} : DI (mLn nm) 553 (.iadd) 1 554 := ⟨(show decode code 553 = _ from by decide +kernel), rfl⟩
theorem dL_law_554 {nm : String} : DI (mLn nm) 554 (.iaload) 1 555 := ⟨(show decode code 554 = _ from by decide +kernel), rfl⟩
theorem dL_law_555 {nm : String} : DLa (mLn nm) 555 0 556 := Or.inl ⟨0, (show decode code 555 = _ from by decide +kernel), rfl, rfl⟩
theorem dL_law_556 {nm : String} : DLi (mLn nm) 556 3 557 := Or.inl ⟨3, (show decode code 556 = _ from by decide +kernel), rfl, rfl⟩
theorem dL_law_557 {nm : String} : DC (mLn nm) 557 2 558 := Or.inl ⟨2, (show decode code 557 = _ from by decide +kernel), by decide, rfl⟩
theorem dL_law_558 {nm : String} : DI (mLn nm) 558 (.iadd) 1 559 := ⟨(show decode code 558 = _ from by decide +kernel), rfl⟩
theorem dL_law_559 {nm : String} : DI (mLn nm) 559 (.iaload) 1 560 := ⟨(show decode code 559 = _ from by decide +kernel), rfl⟩
theorem dL_law_560 {nm : String} : DI (mLn nm) 560 (.invokevirtual 62) 3 563 := ⟨(show decode code 560 = _ from by decide +kernel), rfl⟩
theorem dL_law_563 {nm : String} : DB (mLn nm) 563 (.if_icmp .eq (912)) (912) 566 1475 := ⟨(show decode code 563 = _ from by decide +kernel), rfl, by decide⟩
theorem dL_law_566 {nm : String} : DC (mLn nm) 566 0 567 := Or.inl ⟨0, (show decode code 566 = _ from by decide +kernel), by decide, rfl⟩
theorem dL_law_567 {nm : String} : DRz (mLn nm) 567 := ⟨(show decode code 567 = _ from by decide +kernel), rfl⟩
theorem dL_law_568 {nm : String} : DLa (mLn nm) 568 1 569 := Or.inl ⟨1, (show decode code 568 = _ from by decide +kernel), rfl, rfl⟩
theorem dL_law_569 {nm : String} : DLa (mLn nm) 569 0 570 := Or.inl ⟨0, (show decode code 569 = _ from by decide +kernel), rfl, rfl⟩
theorem dL_law_570 {nm : String} : DLi (mLn nm) 570 3 571 := Or.inl ⟨3, (show decode code 570 = _ from by decide +kernel), rfl, rfl⟩
theorem dL_law_571 {nm : String} : DC (mLn nm) 571 1 572 := Or.inl ⟨1, (show decode code 571 = _ from by decide +kernel), by decide, rfl⟩
theorem dL_law_572 {nm : String} : DI (mLn nm) 572 (.iadd) 1 573 := ⟨(show decode code 572 = _ from by decide +kernel), rfl⟩
theorem dL_law_573 {nm : String} : DI (mLn nm) 573 (.iaload) 1 574 := ⟨(show decode code 573 = _ from by decide +kernel), rfl⟩
theorem dL_law_574 {nm : String} : DLa (mLn nm) 574 0 575 := Or.inl ⟨0, (show decode code 574 = _ from by decide +kernel), rfl, rfl⟩
theorem dL_law_575 {nm : String} : DLi (mLn nm) 575 3 576 := Or.inl ⟨3, (show decode code 575 = _ from by decide +kernel), rfl, rfl⟩
theorem dL_law_576 {nm : String} : DC (mLn nm) 576 2 577 := Or.inl ⟨2, (show decode code 576 = _ from by decide +kernel), by decide, rfl⟩
theorem dL_law_577 {nm : String} : DI (mLn nm) 577 (.iadd) 1 578 := ⟨(show decode code 577 = _ from by decide +kernel), rfl⟩
theorem dL_law_578 {nm : String} : DI (mLn nm) 578 (.iaload) 1 579 := ⟨(show decode code 578 = _ from by decide +kernel), rfl⟩
theorem dL_law_579 {nm : String} : DI (mLn nm) 579 (.invokevirtual 63) 3 582 := ⟨(show decode code 579 = _ from by decide +kernel), rfl⟩
theorem dL_law_582 {nm : String} : DLa (mLn nm) 582 2 583 := Or.inl ⟨2, (show decode code 582 = _ from by decide +kernel), rfl, rfl⟩
theorem dL_law_583 {nm : String} : DLa (mLn nm) 583 0 584 := Or.inl ⟨0, (show decode code 583 = _ from by decide +kernel), rfl, rfl⟩
theorem dL_law_584 {nm : String} : DLi (mLn nm) 584 3 585 := Or.inl ⟨3, (show decode code 584 = _ from by decide +kernel), rfl, rfl⟩
theorem dL_law_585 {nm : String} : DC (mLn nm) 585 1 586 := Or.inl ⟨1, (show decode code 585 = _ from by decide +kernel), by decide, rfl⟩
theorem dL_law_586 {nm : String} : DI (mLn nm) 586 (.iadd) 1 587 := ⟨(show decode code 586 = _ from by decide +kernel), rfl⟩
theorem dL_law_587 {nm : String} : DI (mLn nm) 587 (.iaload) 1 588 := ⟨(show decode code 587 = _ from by decide +kernel), rfl⟩
theorem dL_law_588 {nm : String} : DLa (mLn nm) 588 0 589 := Or.inl ⟨0, (show decode code 588 = _ from by decide +kernel), rfl, rfl⟩
theorem dL_law_589 {nm : String} : DLi (mLn nm) 589 3 590 := Or.inl ⟨3, (show decode code 589 = _ from by decide +kernel), rfl, rfl⟩
theorem dL_law_590 {nm : String} : DC (mLn nm) 590 2 591 := Or.inl ⟨2, (show decode code 590 = _ from by decide +kernel), by decide, rfl⟩
theorem dL_law_591 {nm : String} : DI (mLn nm) 591 (.iadd) 1 592 := ⟨(show decode code 591 = _ from by decide +kernel), rfl⟩
theorem dL_law_592 {nm : String} : DI (mLn nm) 592 (.iaload) 1 593 := ⟨(show decode code 592 = _ from by decide +kernel), rfl⟩
theorem dL_law_593 {nm : String} : DI (mLn nm) 593 (.invokevirtual 66) 3 596 := ⟨(show decode code 593 = _ from by decide +kernel), rfl⟩
theorem dL_law_596 {nm : String} : DB (mLn nm) 596 (.if_icmp .eq (879)) (879) 599 1475 := ⟨(show decode code 596 = _ from by decide +kernel), rfl, by decide⟩
theorem dL_law_599 {nm : String} : DC (mLn nm) 599 0 600 := Or.inl ⟨0, (show decode code 599 = _ from by decide +kernel), by decide, rfl⟩
theorem dL_law_600 {nm : String} : DRz (mLn nm) 600 := ⟨(show decode code 600 = _ from by decide +kernel), rfl⟩
theorem dL_law_601 {nm : String} : DLa (mLn nm) 601 1 602 := Or.inl ⟨1, (show decode code 601 = _ from by decide +kernel), rfl, rfl⟩
theorem dL_law_602 {nm : String} : DLa (mLn nm) 602 0 603 := Or.inl ⟨0, (show decode code 602 = _ from by decide +kernel), rfl, rfl⟩
theorem dL_law_603 {nm : String} : DLi (mLn nm) 603 3 604 := Or.inl ⟨3, (show decode code 603 = _ from by decide +kernel), rfl, rfl⟩
theorem dL_law_604 {nm : String} : DC (mLn nm) 604 1 605 := Or.inl ⟨1, (show decode code 604 = _ from by decide +kernel), by decide, rfl⟩
theorem dL_law_605 {nm : String} : DI (mLn nm) 605 (.iadd) 1 606 := ⟨(show decode code 605 = _ from by decide +kernel), rfl⟩
theorem dL_law_606 {nm : String} : DI (mLn nm) 606 (.iaload) 1 607 := ⟨(show decode code 606 = _ from by decide +kernel), rfl⟩
theorem dL_law_607 {nm : String} : DLa (mLn nm) 607 0 608 := Or.inl ⟨0, (show decode code 607 = _ from by decide +kernel), rfl, rfl⟩
theorem dL_law_608 {nm : String} : DLi (mLn nm) 608 3 609 := Or.inl ⟨3, (show decode code 608 = _ from by decide +kernel), rfl, rfl⟩
theorem dL_law_609 {nm : String} : DC (mLn nm) 609 2 610 := Or.inl ⟨2, (show decode code 609 = _ from by decide +kernel), by decide, rfl⟩
theorem dL_law_610 {nm : String} : DI (mLn nm) 610 (.iadd) 1 611 := ⟨(show decode code 610 = _ from by decide +kernel), rfl⟩
theorem dL_law_611 {nm : String} : DI (mLn nm) 611 (.iaload) 1 612 := ⟨(show decode code 611 = _ from by decide +kernel), rfl⟩
theorem dL_law_612 {nm : String} : DI (mLn nm) 612 (.invokevirtual 67) 3 615 := ⟨(show decode code 612 = _ from by decide +kernel), rfl⟩
theorem dL_law_615 {nm : String} : DLa (mLn nm) 615 2 616 := Or.inl ⟨2, (show decode code 615 = _ from by decide +kernel), rfl, rfl⟩
theorem dL_law_616 {nm : String} : DLa (mLn nm) 616 0 617 := Or.inl ⟨0, (show decode code 616 = _ from by decide +kernel), rfl, rfl⟩
theorem dL_law_617 {nm : String} : DLi (mLn nm) 617 3 618 := Or.inl ⟨3, (show decode code 617 = _ from by decide +kernel), rfl, rfl⟩
theorem dL_law_618 {nm : String} : DC (mLn nm) 618 1 619 := Or.inl ⟨1, (show decode code 618 = _ from by decide +kernel), by decide, rfl⟩
theorem dL_law_619 {nm : String} : DI (mLn nm) 619 (.iadd) 1 620 := ⟨(show decode code 619 = _ from by decide +kernel), rfl⟩
theorem dL_law_620 {nm : String} : DI (mLn nm) 620 (.iaload) 1 621 := ⟨(show decode code 620 = _ from by decide +kernel), rfl⟩
theorem dL_law_621 {nm : String} : DLa (mLn nm) 621 0 622 := Or.inl ⟨0, (show decode code 621 = _ from by decide +kernel), rfl, rfl⟩
theorem dL_law_622 {nm : String} : DLi (mLn nm) 622 3 623 := Or.inl ⟨3, (show decode code 622 = _ from by decide +kernel), rfl, rfl⟩
theorem dL_law_623 {nm : String} : DC (mLn nm) 623 2 624 := Or.inl ⟨2, (show decode code 623 = _ from by decide +kernel), by decide, rfl⟩
theorem dL_law_624 {nm : String} : DI (mLn nm) 624 (.iadd) 1 625 := ⟨(show decode code 624 = _ from by decide +kernel), rfl⟩
theorem dL_law_625 {nm : String} : DI (mLn nm) 625 (.iaload) 1 626 := ⟨(show decode code 625 = _ from by decide +kernel), rfl⟩
theorem dL_law_626 {nm : String} : DI (mLn nm) 626 (.invokevirtual 70) 3 629 := ⟨(show decode code 626 = _ from by decide +kernel), rfl⟩
theorem dL_law_629 {nm : String} : DB (mLn nm) 629 (.if_icmp .eq (846)) (846) 632 1475 := ⟨(show decode code 629 = _ from by decide +kernel), rfl, by decide⟩
theorem dL_law_632 {nm : String} : DC (mLn nm) 632 0 633 := Or.inl ⟨0, (show decode code 632 = _ from by decide +kernel), by decide, rfl⟩
theorem dL_law_633 {nm : String} : DRz (mLn nm) 633 := ⟨(show decode code 633 = _ from by decide +kernel), rfl⟩
theorem dL_law_634 {nm : String} : DLa (mLn nm) 634 1 635 := Or.inl ⟨1, (show decode code 634 = _ from by decide +kernel), rfl, rfl⟩
theorem dL_law_635 {nm : String} : DLa (mLn nm) 635 0 636 := Or.inl ⟨0, (show decode code 635 = _ from by decide +kernel), rfl, rfl⟩
theorem dL_law_636 {nm : String} : DLi (mLn nm) 636 3 637 := Or.inl ⟨3, (show decode code 636 = _ from by decide +kernel), rfl, rfl⟩
theorem dL_law_637 {nm : String} : DC (mLn nm) 637 1 638 := Or.inl ⟨1, (show decode code 637 = _ from by decide +kernel), by decide, rfl⟩
theorem dL_law_638 {nm : String} : DI (mLn nm) 638 (.iadd) 1 639 := ⟨(show decode code 638 = _ from by decide +kernel), rfl⟩
theorem dL_law_639 {nm : String} : DI (mLn nm) 639 (.iaload) 1 640 := ⟨(show decode code 639 = _ from by decide +kernel), rfl⟩
theorem dL_law_640 {nm : String} : DLa (mLn nm) 640 0 641 := Or.inl ⟨0, (show decode code 640 = _ from by decide +kernel), rfl, rfl⟩
theorem dL_law_641 {nm : String} : DLi (mLn nm) 641 3 642 := Or.inl ⟨3, (show decode code 641 = _ from by decide +kernel), rfl, rfl⟩
theorem dL_law_642 {nm : String} : DC (mLn nm) 642 2 643 := Or.inl ⟨2, (show decode code 642 = _ from by decide +kernel), by decide, rfl⟩
theorem dL_law_643 {nm : String} : DI (mLn nm) 643 (.iadd) 1 644 := ⟨(show decode code 643 = _ from by decide +kernel), rfl⟩
theorem dL_law_644 {nm : String} : DI (mLn nm) 644 (.iaload) 1 645 := ⟨(show decode code 644 = _ from by decide +kernel), rfl⟩
theorem dL_law_645 {nm : String} : DI (mLn nm) 645 (.invokevirtual 71) 3 648 := ⟨(show decode code 645 = _ from by decide +kernel), rfl⟩
theorem dL_law_648 {nm : String} : DLa (mLn nm) 648 2 649 := Or.inl ⟨2, (show decode code 648 = _ from by decide +kernel), rfl, rfl⟩
theorem dL_law_649 {nm : String} : DLa (mLn nm) 649 0 650 := Or.inl ⟨0, (show decode code 649 = _ from by decide +kernel), rfl, rfl⟩
theorem dL_law_650 {nm : String} : DLi (mLn nm) 650 3 651 := Or.inl ⟨3, (show decode code 650 = _ from by decide +kernel), rfl, rfl⟩
theorem dL_law_651 {nm : String} : DC (mLn nm) 651 1 652 := Or.inl ⟨1, (show decode code 651 = _ from by decide +kernel), by decide, rfl⟩
theorem dL_law_652 {nm : String} : DI (mLn nm) 652 (.iadd) 1 653 := ⟨(show decode code 652 = _ from by decide +kernel), rfl⟩
theorem dL_law_653 {nm : String} : DI (mLn nm) 653 (.iaload) 1 654 := ⟨(show decode code 653 = _ from by decide +kernel), rfl⟩
theorem dL_law_654 {nm : String} : DLa (mLn nm) 654 0 655 := Or.inl ⟨0, (show decode code 654 = _ from by decide +kernel), rfl, rfl⟩
theorem dL_law_655 {nm : String} : DLi (mLn nm) 655 3 656 := Or.inl ⟨3, (show decode code 655 = _ from by decide +kernel), rfl, rfl⟩
theorem dL_law_656 {nm : String} : DC (mLn nm) 656 2 657 := Or.inl ⟨2, (show decode code 656 = _ from by decide +kernel), by decide, rfl⟩
theorem dL_law_657 {nm : String} : DI (mLn nm) 657 (.iadd) 1 658 := ⟨(show decode code 657 = _ from by decide +kernel), rfl⟩
theorem dL_law_658 {nm : String} : DI (mLn nm) 658 (.iaload) 1 659 := ⟨(show decode code 658 = _ from by decide +kernel), rfl⟩
theorem dL_law_659 {nm : String} : DI (mLn nm) 659 (.invokevirtual 75) 3 662 := ⟨(show decode code 659 = _ from by decide +kernel), rfl⟩
theorem dL_law_662 {nm : String} : DI (mLn nm) 662 (.lcmp) 1 663 := ⟨(show decode code 662 = _ from by decide +kernel), rfl⟩
theorem dL_law_663 {nm : String} : DB (mLn nm) 663 (.ifCond .eq (812)) (812) 666 1475 := ⟨(show decode code 663 = _ from by decide +kernel), rfl, by decide⟩
theorem dL_law_666 {nm : String} : DC (mLn nm) 666 0 667 := Or.inl ⟨0, (show decode code 666 = _ from by decide +kernel), by decide, rfl⟩
theorem dL_law_667 {nm : String} : DRz (mLn nm) 667 := ⟨(show decode code 667 = _ from by decide +kernel), rfl⟩
theorem dL_law_668 {nm : String} : DLa (mLn nm) 668 1 669 := Or.inl ⟨1, (show decode code 668 = _ from by decide +kernel), rfl, rfl⟩
theorem dL_law_669 {nm : String} : DLa (mLn nm) 669 0 670 := Or.inl ⟨0, (show decode code 669 = _ from by decide +kernel), rfl, rfl⟩
theorem dL_law_670 {nm : String} : DLi (mLn nm) 670 3 671 := Or.inl ⟨3, (show decode code 670 = _ from by decide +kernel), rfl, rfl⟩
theorem dL_law_671 {nm : String} : DC (mLn nm) 671 1 672 := Or.inl ⟨1, (show decode code 671 = _ from by decide +kernel), by decide, rfl⟩
theorem dL_law_672 {nm : String} : DI (mLn nm) 672 (.iadd) 1 673 := ⟨(show decode code 672 = _ from by decide +kernel), rfl⟩
theorem dL_law_673 {nm : String} : DI (mLn nm) 673 (.iaload) 1 674 := ⟨(show decode code 673 = _ from by decide +kernel), rfl⟩
theorem dL_law_674 {nm : String} : DLa (mLn nm) 674 0 675 := Or.inl ⟨0, (show decode code 674 = _ from by decide +kernel), rfl, rfl⟩
theorem dL_law_675 {nm : String} : DLi (mLn nm) 675 3 676 := Or.inl ⟨3, (show decode code 675 = _ from by decide +kernel), rfl, rfl⟩
theorem dL_law_676 {nm : String} : DC (mLn nm) 676 2 677 := Or.inl ⟨2, (show decode code 676 = _ from by decide +kernel), by decide, rfl⟩
theorem dL_law_677 {nm : String} : DI (mLn nm) 677 (.iadd) 1 678 := ⟨(show decode code 677 = _ from by decide +kernel), rfl⟩
theorem dL_law_678 {nm : String} : DI (mLn nm) 678 (.iaload) 1 679 := ⟨(show decode code 678 = _ from by decide +kernel), rfl⟩
theorem dL_law_679 {nm : String} : DLa (mLn nm) 679 0 680 := Or.inl ⟨0, (show decode code 679 = _ from by decide +kernel), rfl, rfl⟩
theorem dL_law_680 {nm : String} : DLi (mLn nm) 680 3 681 := Or.inl ⟨3, (show decode code 680 = _ from by decide +kernel), rfl, rfl⟩
theorem dL_law_681 {nm : String} : DC (mLn nm) 681 3 682 := Or.inl ⟨3, (show decode code 681 = _ from by decide +kernel), by decide, rfl⟩
theorem dL_law_682 {nm : String} : DI (mLn nm) 682 (.iadd) 1 683 := ⟨(show decode code 682 = _ from by decide +kernel), rfl⟩
theorem dL_law_683 {nm : String} : DI (mLn nm) 683 (.iaload) 1 684 := ⟨(show decode code 683 = _ from by decide +kernel), rfl⟩
theorem dL_law_684 {nm : String} : DI (mLn nm) 684 (.invokevirtual 76) 3 687 := ⟨(show decode code 684 = _ from by decide +kernel), rfl⟩
theorem dL_law_687 {nm : String} : DLa (mLn nm) 687 2 688 := Or.inl ⟨2, (show decode code 687 = _ from by decide +kernel), rfl, rfl⟩
theorem dL_law_688 {nm : String} : DLa (mLn nm) 688 0 689 := Or.inl ⟨0, (show decode code 688 = _ from by decide +kernel), rfl, rfl⟩
theorem dL_law_689 {nm : String} : DLi (mLn nm) 689 3 690 := Or.inl ⟨3, (show decode code 689 = _ from by decide +kernel), rfl, rfl⟩
theorem dL_law_690 {nm : String} : DC (mLn nm) 690 1 691 := Or.inl ⟨1, (show decode code 690 = _ from by decide +kernel), by decide, rfl⟩
theorem dL_law_691 {nm : String} : DI (mLn nm) 691 (.iadd) 1 692 := ⟨(show decode code 691 = _ from by decide +kernel), rfl⟩
theorem dL_law_692 {nm : String} : DI (mLn nm) 692 (.iaload) 1 693 := ⟨(show decode code 692 = _ from by decide +kernel), rfl⟩
theorem dL_law_693 {nm : String} : DLa (mLn nm) 693 0 694 := Or.inl ⟨0, (show decode code 693 = _ from by decide +kernel), rfl, rfl⟩
theorem dL_law_694 {nm : String} : DLi (mLn nm) 694 3 695 := Or.inl ⟨3, (show decode code 694 = _ from by decide +kernel), rfl, rfl⟩
theorem dL_law_695 {nm : String} : DC (mLn nm) 695 2 696 := Or.inl ⟨2, (show decode code 695 = _ from by decide +kernel), by decide, rfl⟩
theorem dL_law_696 {nm : String} : DI (mLn nm) 696 (.iadd) 1 697 := ⟨(show decode code 696 = _ from by decide +kernel), rfl⟩
theorem dL_law_697 {nm : String} : DI (mLn nm) 697 (.iaload) 1 698 := ⟨(show decode code 697 = _ from by decide +kernel), rfl⟩
theorem dL_law_698 {nm : String} : DLa (mLn nm) 698 0 699 := Or.inl ⟨0, (show decode code 698 = _ from by decide +kernel), rfl, rfl⟩
theorem dL_law_699 {nm : String} : DLi (mLn nm) 699 3 700 := Or.inl ⟨3, (show decode code 699 = _ from by decide +kernel), rfl, rfl⟩
theorem dL_law_700 {nm : String} : DC (mLn nm) 700 3 701 := Or.inl ⟨3, (show decode code 700 = _ from by decide +kernel), by decide, rfl⟩
theorem dL_law_701 {nm : String} : DI (mLn nm) 701 (.iadd) 1 702 := ⟨(show decode code 701 = _ from by decide +kernel), rfl⟩
theorem dL_law_702 {nm : String} : DI (mLn nm) 702 (.iaload) 1 703 := ⟨(show decode code 702 = _ from by decide +kernel), rfl⟩
theorem dL_law_703 {nm : String} : DI (mLn nm) 703 (.invokevirtual 79) 3 706 := ⟨(show decode code 703 = _ from by decide +kernel), rfl⟩
theorem dL_law_706 {nm : String} : DB (mLn nm) 706 (.if_icmp .eq (769)) (769) 709 1475 := ⟨(show decode code 706 = _ from by decide +kernel), rfl, by decide⟩
theorem dL_law_709 {nm : String} : DC (mLn nm) 709 0 710 := Or.inl ⟨0, (show decode code 709 = _ from by decide +kernel), by decide, rfl⟩
theorem dL_law_710 {nm : String} : DRz (mLn nm) 710 := ⟨(show decode code 710 = _ from by decide +kernel), rfl⟩
theorem dL_law_711 {nm : String} : DLa (mLn nm) 711 1 712 := Or.inl ⟨1, (show decode code 711 = _ from by decide +kernel), rfl, rfl⟩
theorem dL_law_712 {nm : String} : DLa (mLn nm) 712 0 713 := Or.inl ⟨0, (show decode code 712 = _ from by decide +kernel), rfl, rfl⟩
theorem dL_law_713 {nm : String} : DLi (mLn nm) 713 3 714 := Or.inl ⟨3, (show decode code 713 = _ from by decide +kernel), rfl, rfl⟩
theorem dL_law_714 {nm : String} : DC (mLn nm) 714 1 715 := Or.inl ⟨1, (show decode code 714 = _ from by decide +kernel), by decide, rfl⟩
theorem dL_law_715 {nm : String} : DI (mLn nm) 715 (.iadd) 1 716 := ⟨(show decode code 715 = _ from by decide +kernel), rfl⟩
theorem dL_law_716 {nm : String} : DI (mLn nm) 716 (.iaload) 1 717 := ⟨(show decode code 716 = _ from by decide +kernel), rfl⟩
theorem dL_law_717 {nm : String} : DLa (mLn nm) 717 0 718 := Or.inl ⟨0, (show decode code 717 = _ from by decide +kernel), rfl, rfl⟩
theorem dL_law_718 {nm : String} : DLi (mLn nm) 718 3 719 := Or.inl ⟨3, (show decode code 718 = _ from by decide +kernel), rfl, rfl⟩
theorem dL_law_719 {nm : String} : DC (mLn nm) 719 2 720 := Or.inl ⟨2, (show decode code 719 = _ from by decide +kernel), by decide, rfl⟩
theorem dL_law_720 {nm : String} : DI (mLn nm) 720 (.iadd) 1 721 := ⟨(show decode code 720 = _ from by decide +kernel), rfl⟩
theorem dL_law_721 {nm : String} : DI (mLn nm) 721 (.iaload) 1 722 := ⟨(show decode code 721 = _ from by decide +kernel), rfl⟩
theorem dL_law_722 {nm : String} : DI (mLn nm) 722 (.invokevirtual 80) 3 725 := ⟨(show decode code 722 = _ from by decide +kernel), rfl⟩
theorem dL_law_725 {nm : String} : DLa (mLn nm) 725 2 726 := Or.inl ⟨2, (show decode code 725 = _ from by decide +kernel), rfl, rfl⟩
theorem dL_law_726 {nm : String} : DLa (mLn nm) 726 0 727 := Or.inl ⟨0, (show decode code 726 = _ from by decide +kernel), rfl, rfl⟩
theorem dL_law_727 {nm : String} : DLi (mLn nm) 727 3 728 := Or.inl ⟨3, (show decode code 727 = _ from by decide +kernel), rfl, rfl⟩
theorem dL_law_728 {nm : String} : DC (mLn nm) 728 1 729 := Or.inl ⟨1, (show decode code 728 = _ from by decide +kernel), by decide, rfl⟩
theorem dL_law_729 {nm : String} : DI (mLn nm) 729 (.iadd) 1 730 := ⟨(show decode code 729 = _ from by decide +kernel), rfl⟩
theorem dL_law_730 {nm : String} : DI (mLn nm) 730 (.iaload) 1 731 := ⟨(show decode code 730 = _ from by decide +kernel), rfl⟩
theorem dL_law_731 {nm : String} : DLa (mLn nm) 731 0 732 := Or.inl ⟨0, (show decode code 731 = _ from by decide +kernel), rfl, rfl⟩
theorem dL_law_732 {nm : String} : DLi (mLn nm) 732 3 733 := Or.inl ⟨3, (show decode code 732 = _ from by decide +kernel), rfl, rfl⟩
theorem dL_law_733 {nm : String} : DC (mLn nm) 733 2 734 := Or.inl ⟨2, (show decode code 733 = _ from by decide +kernel), by decide, rfl⟩
theorem dL_law_734 {nm : String} : DI (mLn nm) 734 (.iadd) 1 735 := ⟨(show decode code 734 = _ from by decide +kernel), rfl⟩
theorem dL_law_735 {nm : String} : DI (mLn nm) 735 (.iaload) 1 736 := ⟨(show decode code 735 = _ from by decide +kernel), rfl⟩
theorem dL_law_736 {nm : String} : DI (mLn nm) 736 (.invokevirtual 83) 3 739 := ⟨(show decode code 736 = _ from by decide +kernel), rfl⟩
theorem dL_law_739 {nm : String} : DB (mLn nm) 739 (.if_icmp .eq (736)) (736) 742 1475 := ⟨(show decode code 739 = _ from by decide +kernel), rfl, by decide⟩
theorem dL_law_742 {nm : String} : DC (mLn nm) 742 0 743 := Or.inl ⟨0, (show decode code 742 = _ from by decide +kernel), by decide, rfl⟩
theorem dL_law_743 {nm : String} : DRz (mLn nm) 743 := ⟨(show decode code 743 = _ from by decide +kernel), rfl⟩
theorem dL_law_744 {nm : String} : DLa (mLn nm) 744 1 745 := Or.inl ⟨1, (show decode code 744 = _ from by decide +kernel), rfl, rfl⟩
theorem dL_law_745 {nm : String} : DLa (mLn nm) 745 0 746 := Or.inl ⟨0, (show decode code 745 = _ from by decide +kernel), rfl, rfl⟩
theorem dL_law_746 {nm : String} : DLi (mLn nm) 746 3 747 := Or.inl ⟨3, (show decode code 746 = _ from by decide +kernel), rfl, rfl⟩
theorem dL_law_747 {nm : String} : DC (mLn nm) 747 1 748 := Or.inl ⟨1, (show decode code 747 = _ from by decide +kernel), by decide, rfl⟩
theorem dL_law_748 {nm : String} : DI (mLn nm) 748 (.iadd) 1 749 := ⟨(show decode code 748 = _ from by decide +kernel), rfl⟩
theorem dL_law_749 {nm : String} : DI (mLn nm) 749 (.iaload) 1 750 := ⟨(show decode code 749 = _ from by decide +kernel), rfl⟩
theorem dL_law_750 {nm : String} : DLa (mLn nm) 750 0 751 := Or.inl ⟨0, (show decode code 750 = _ from by decide +kernel), rfl, rfl⟩
theorem dL_law_751 {nm : String} : DLi (mLn nm) 751 3 752 := Or.inl ⟨3, (show decode code 751 = _ from by decide +kernel), rfl, rfl⟩
theorem dL_law_752 {nm : String} : DC (mLn nm) 752 2 753 := Or.inl ⟨2, (show decode code 752 = _ from by decide +kernel), by decide, rfl⟩
theorem dL_law_753 {nm : String} : DI (mLn nm) 753 (.iadd) 1 754 := ⟨(show decode code 753 = _ from by decide +kernel), rfl⟩
theorem dL_law_754 {nm : String} : DI (mLn nm) 754 (.iaload) 1 755 := ⟨(show decode code 754 = _ from by decide +kernel), rfl⟩
theorem dL_law_755 {nm : String} : DI (mLn nm) 755 (.invokevirtual 84) 3 758 := ⟨(show decode code 755 = _ from by decide +kernel), rfl⟩
theorem dL_law_758 {nm : String} : DLa (mLn nm) 758 2 759 := Or.inl ⟨2, (show decode code 758 = _ from by decide +kernel), rfl, rfl⟩
theorem dL_law_759 {nm : String} : DLa (mLn nm) 759 0 760 := Or.inl ⟨0, (show decode code 759 = _ from by decide +kernel), rfl, rfl⟩
theorem dL_law_760 {nm : String} : DLi (mLn nm) 760 3 761 := Or.inl ⟨3, (show decode code 760 = _ from by decide +kernel), rfl, rfl⟩
theorem dL_law_761 {nm : String} : DC (mLn nm) 761 1 762 := Or.inl ⟨1, (show decode code 761 = _ from by decide +kernel), by decide, rfl⟩
theorem dL_law_762 {nm : String} : DI (mLn nm) 762 (.iadd) 1 763 := ⟨(show decode code 762 = _ from by decide +kernel), rfl⟩
theorem dL_law_763 {nm : String} : DI (mLn nm) 763 (.iaload) 1 764 := ⟨(show decode code 763 = _ from by decide +kernel), rfl⟩
theorem dL_law_764 {nm : String} : DLa (mLn nm) 764 0 765 := Or.inl ⟨0, (show decode code 764 = _ from by decide +kernel), rfl, rfl⟩
theorem dL_law_765 {nm : String} : DLi (mLn nm) 765 3 766 := Or.inl ⟨3, (show decode code 765 = _ from by decide +kernel), rfl, rfl⟩
theorem dL_law_766 {nm : String} : DC (mLn nm) 766 2 767 := Or.inl ⟨2, (show decode code 766 = _ from by decide +kernel), by decide, rfl⟩
theorem dL_law_767 {nm : String} : DI (mLn nm) 767 (.iadd) 1 768 := ⟨(show decode code 767 = _ from by decide +kernel), rfl⟩
theorem dL_law_768 {nm : String} : DI (mLn nm) 768 (.iaload) 1 769 := ⟨(show decode code 768 = _ from by decide +kernel), rfl⟩
theorem dL_law_769 {nm : String} : DI (mLn nm) 769 (.invokevirtual 87) 3 772 := ⟨(show decode code 769 = _ from by decide +kernel), rfl⟩
theorem dL_law_772 {nm : String} : DB (mLn nm) 772 (.if_icmp .eq (703)) (703) 775 1475 := ⟨(show decode code 772 = _ from by decide +kernel), rfl, by decide⟩
theorem dL_law_775 {nm : String} : DC (mLn nm) 775 0 776 := Or.inl ⟨0, (show decode code 775 = _ from by decide +kernel), by decide, rfl⟩
theorem dL_law_776 {nm : String} : DRz (mLn nm) 776 := ⟨(show decode code 776 = _ from by decide +kernel), rfl⟩
theorem dL_law_777 {nm : String} : DLa (mLn nm) 777 1 778 := Or.inl ⟨1, (show decode code 777 = _ from by decide +kernel), rfl, rfl⟩
theorem dL_law_778 {nm : String} : DLa (mLn nm) 778 0 779 := Or.inl ⟨0, (show decode code 778 = _ from by decide +kernel), rfl, rfl⟩
theorem dL_law_779 {nm : String} : DLi (mLn nm) 779 3 780 := Or.inl ⟨3, (show decode code 779 = _ from by decide +kernel), rfl, rfl⟩
theorem dL_law_780 {nm : String} : DC (mLn nm) 780 1 781 := Or.inl ⟨1, (show decode code 780 = _ from by decide +kernel), by decide, rfl⟩
theorem dL_law_781 {nm : String} : DI (mLn nm) 781 (.iadd) 1 782 := ⟨(show decode code 781 = _ from by decide +kernel), rfl⟩
theorem dL_law_782 {nm : String} : DI (mLn nm) 782 (.iaload) 1 783 := ⟨(show decode code 782 = _ from by decide +kernel), rfl⟩
theorem dL_law_783 {nm : String} : DLa (mLn nm) 783 0 784 := Or.inl ⟨0, (show decode code 783 = _ from by decide +kernel), rfl, rfl⟩
theorem dL_law_784 {nm : String} : DLi (mLn nm) 784 3 785 := Or.inl ⟨3, (show decode code 784 = _ from by decide +kernel), rfl, rfl⟩
theorem dL_law_785 {nm : String} : DC (mLn nm) 785 2 786 := Or.inl ⟨2, (show decode code 785 = _ from by decide +kernel), by decide, rfl⟩
theorem dL_law_786 {nm : String} : DI (mLn nm) 786 (.iadd) 1 787 := ⟨(show decode code 786 = _ from by decide +kernel), rfl⟩
theorem dL_law_787 {nm : String} : DI (mLn nm) 787 (.iaload) 1 788 := ⟨(show decode code 787 = _ from by decide +kernel), rfl⟩
theorem dL_law_788 {nm : String} : DI (mLn nm) 788 (.invokevirtual 88) 3 791 := ⟨(show decode code 788 = _ from by decide +kernel), rfl⟩
theorem dL_law_791 {nm : String} : DLa (mLn nm) 791 2 792 := Or.inl ⟨2, (show decode code 791 = _ from by decide +kernel), rfl, rfl⟩
theorem dL_law_792 {nm : String} : DLa (mLn nm) 792 0 793 := Or.inl ⟨0, (show decode code 792 = _ from by decide +kernel), rfl, rfl⟩
theorem dL_law_793 {nm : String} : DLi (mLn nm) 793 3 794 := Or.inl ⟨3, (show decode code 793 = _ from by decide +kernel), rfl, rfl⟩
theorem dL_law_794 {nm : String} : DC (mLn nm) 794 1 795 := Or.inl ⟨1, (show decode code 794 = _ from by decide +kernel), by decide, rfl⟩
theorem dL_law_795 {nm : String} : DI (mLn nm) 795 (.iadd) 1 796 := ⟨(show decode code 795 = _ from by decide +kernel), rfl⟩
theorem dL_law_796 {nm : String} : DI (mLn nm) 796 (.iaload) 1 797 := ⟨(show decode code 796 = _ from by decide +kernel), rfl⟩
theorem dL_law_797 {nm : String} : DLa (mLn nm) 797 0 798 := Or.inl ⟨0, (show decode code 797 = _ from by decide +kernel), rfl, rfl⟩
theorem dL_law_798 {nm : String} : DLi (mLn nm) 798 3 799 := Or.inl ⟨3, (show decode code 798 = _ from by decide +kernel), rfl, rfl⟩
theorem dL_law_799 {nm : String} : DC (mLn nm) 799 2 800 := Or.inl ⟨2, (show decode code 799 = _ from by decide +kernel), by decide, rfl⟩
theorem dL_law_800 {nm : String} : DI (mLn nm) 800 (.iadd) 1 801 := ⟨(show decode code 800 = _ from by decide +kernel), rfl⟩
theorem dL_law_801 {nm : String} : DI (mLn nm) 801 (.iaload) 1 802 := ⟨(show decode code 801 = _ from by decide +kernel), rfl⟩
theorem dL_law_802 {nm : String} : DI (mLn nm) 802 (.invokevirtual 91) 3 805 := ⟨(show decode code 802 = _ from by decide +kernel), rfl⟩
theorem dL_law_805 {nm : String} : DB (mLn nm) 805 (.if_icmp .eq (670)) (670) 808 1475 := ⟨(show decode code 805 = _ from by decide +kernel), rfl, by decide⟩
theorem dL_law_808 {nm : String} : DC (mLn nm) 808 0 809 := Or.inl ⟨0, (show decode code 808 = _ from by decide +kernel), by decide, rfl⟩
theorem dL_law_809 {nm : String} : DRz (mLn nm) 809 := ⟨(show decode code 809 = _ from by decide +kernel), rfl⟩
theorem dL_law_810 {nm : String} : DLa (mLn nm) 810 1 811 := Or.inl ⟨1, (show decode code 810 = _ from by decide +kernel), rfl, rfl⟩
theorem dL_law_811 {nm : String} : DLa (mLn nm) 811 0 812 := Or.inl ⟨0, (show decode code 811 = _ from by decide +kernel), rfl, rfl⟩
theorem dL_law_812 {nm : String} : DLi (mLn nm) 812 3 813 := Or.inl ⟨3, (show decode code 812 = _ from by decide +kernel), rfl, rfl⟩
theorem dL_law_813 {nm : String} : DC (mLn nm) 813 1 814 := Or.inl ⟨1, (show decode code 813 = _ from by decide +kernel), by decide, rfl⟩
theorem dL_law_814 {nm : String} : DI (mLn nm) 814 (.iadd) 1 815 := ⟨(show decode code 814 = _ from by decide +kernel), rfl⟩
theorem dL_law_815 {nm : String} : DI (mLn nm) 815 (.iaload) 1 816 := ⟨(show decode code 815 = _ from by decide +kernel), rfl⟩
theorem dL_law_816 {nm : String} : DLa (mLn nm) 816 0 817 := Or.inl ⟨0, (show decode code 816 = _ from by decide +kernel), rfl, rfl⟩
theorem dL_law_817 {nm : String} : DLi (mLn nm) 817 3 818 := Or.inl ⟨3, (show decode code 817 = _ from by decide +kernel), rfl, rfl⟩
theorem dL_law_818 {nm : String} : DC (mLn nm) 818 2 819 := Or.inl ⟨2, (show decode code 818 = _ from by decide +kernel), by decide, rfl⟩
theorem dL_law_819 {nm : String} : DI (mLn nm) 819 (.iadd) 1 820 := ⟨(show decode code 819 = _ from by decide +kernel), rfl⟩
theorem dL_law_820 {nm : String} : DI (mLn nm) 820 (.iaload) 1 821 := ⟨(show decode code 820 = _ from by decide +kernel), rfl⟩
theorem dL_law_821 {nm : String} : DI (mLn nm) 821 (.invokevirtual 92) 3 824 := ⟨(show decode code 821 = _ from by decide +kernel), rfl⟩
theorem dL_law_824 {nm : String} : DLa (mLn nm) 824 2 825 := Or.inl ⟨2, (show decode code 824 = _ from by decide +kernel), rfl, rfl⟩
theorem dL_law_825 {nm : String} : DLa (mLn nm) 825 0 826 := Or.inl ⟨0, (show decode code 825 = _ from by decide +kernel), rfl, rfl⟩
theorem dL_law_826 {nm : String} : DLi (mLn nm) 826 3 827 := Or.inl ⟨3, (show decode code 826 = _ from by decide +kernel), rfl, rfl⟩
theorem dL_law_827 {nm : String} : DC (mLn nm) 827 1 828 := Or.inl ⟨1, (show decode code 827 = _ from by decide +kernel), by decide, rfl⟩
theorem dL_law_828 {nm : String} : DI (mLn nm) 828 (.iadd) 1 829 := ⟨(show decode code 828 = _ from by decide +kernel), rfl⟩
theorem dL_law_829 {nm : String} : DI (mLn nm) 829 (.iaload) 1 830 := ⟨(show decode code 829 = _ from by decide +kernel), rfl⟩
theorem dL_law_830 {nm : String} : DLa (mLn nm) 830 0 831 := Or.inl ⟨0, (show decode code 830 = _ from by decide +kernel), rfl, rfl⟩
theorem dL_law_831 {nm : String} : DLi (mLn nm) 831 3 832 := Or.inl ⟨3, (show decode code 831 = _ from by decide +kernel), rfl, rfl⟩
theorem dL_law_832 {nm : String} : DC (mLn nm) 832 2 833 := Or.inl ⟨2, (show decode code 832 = _ from by decide +kernel), by decide, rfl⟩
theorem dL_law_833 {nm : String} : DI (mLn nm) 833 (.iadd) 1 834 := ⟨(show decode code 833 = _ from by decide +kernel), rfl⟩
theorem dL_law_834 {nm : String} : DI (mLn nm) 834 (.iaload) 1 835 := ⟨(show decode code 834 = _ from by decide +kernel), rfl⟩
theorem dL_law_835 {nm : String} : DI (mLn nm) 835 (.invokevirtual 95) 3 838 := ⟨(show decode code 835 = _ from by decide +kernel), rfl⟩
theorem dL_law_838 {nm : String} : DB (mLn nm) 838 (.if_icmp .eq (637)) (637) 841 1475 := ⟨(show decode code 838 = _ from by decide +kernel), rfl, by decide⟩
theorem dL_law_841 {nm : String} : DC (mLn nm) 841 0 842 := Or.inl ⟨0, (show decode code 841 = _ from by decide +kernel), by decide, rfl⟩
theorem dL_law_842 {nm : String} : DRz (mLn nm) 842 := ⟨(show decode code 842 = _ from by decide +kernel), rfl⟩
theorem dL_law_843 {nm : String} : DLa (mLn nm) 843 1 844 := Or.inl ⟨1, (show decode code 843 = _ from by decide +kernel), rfl, rfl⟩
theorem dL_law_844 {nm : String} : DLa (mLn nm) 844 0 845 := Or.inl ⟨0, (show decode code 844 = _ from by decide +kernel), rfl, rfl⟩
theorem dL_law_845 {nm : String} : DLi (mLn nm) 845 3 846 := Or.inl ⟨3, (show decode code 845 = _ from by decide +kernel), rfl, rfl⟩
theorem dL_law_846 {nm : String} : DC (mLn nm) 846 1 847 := Or.inl ⟨1, (show decode code 846 = _ from by decide +kernel), by decide, rfl⟩
theorem dL_law_847 {nm : String} : DI (mLn nm) 847 (.iadd) 1 848 := ⟨(show decode code 847 = _ from by decide +kernel), rfl⟩
theorem dL_law_848 {nm : String} : DI (mLn nm) 848 (.iaload) 1 849 := ⟨(show decode code 848 = _ from by decide +kernel), rfl⟩
theorem dL_law_849 {nm : String} : DLa (mLn nm) 849 0 850 := Or.inl ⟨0, (show decode code 849 = _ from by decide +kernel), rfl, rfl⟩
theorem dL_law_850 {nm : String} : DLi (mLn nm) 850 3 851 := Or.inl ⟨3, (show decode code 850 = _ from by decide +kernel), rfl, rfl⟩
theorem dL_law_851 {nm : String} : DC (mLn nm) 851 2 852 := Or.inl ⟨2, (show decode code 851 = _ from by decide +kernel), by decide, rfl⟩
theorem dL_law_852 {nm : String} : DI (mLn nm) 852 (.iadd) 1 853 := ⟨(show decode code 852 = _ from by decide +kernel), rfl⟩
theorem dL_law_853 {nm : String} : DI (mLn nm) 853 (.iaload) 1 854 := ⟨(show decode code 853 = _ from by decide +kernel), rfl⟩
theorem dL_law_854 {nm : String} : DI (mLn nm) 854 (.invokevirtual 96) 3 857 := ⟨(show decode code 854 = _ from by decide +kernel), rfl⟩
theorem dL_law_857 {nm : String} : DLa (mLn nm) 857 2 858 := Or.inl ⟨2, (show decode code 857 = _ from by decide +kernel), rfl, rfl⟩
theorem dL_law_858 {nm : String} : DLa (mLn nm) 858 0 859 := Or.inl ⟨0, (show decode code 858 = _ from by decide +kernel), rfl, rfl⟩
theorem dL_law_859 {nm : String} : DLi (mLn nm) 859 3 860 := Or.inl ⟨3, (show decode code 859 = _ from by decide +kernel), rfl, rfl⟩
theorem dL_law_860 {nm : String} : DC (mLn nm) 860 1 861 := Or.inl ⟨1, (show decode code 860 = _ from by decide +kernel), by decide, rfl⟩
theorem dL_law_861 {nm : String} : DI (mLn nm) 861 (.iadd) 1 862 := ⟨(show decode code 861 = _ from by decide +kernel), rfl⟩
theorem dL_law_862 {nm : String} : DI (mLn nm) 862 (.iaload) 1 863 := ⟨(show decode code 862 = _ from by decide +kernel), rfl⟩
theorem dL_law_863 {nm : String} : DLa (mLn nm) 863 0 864 := Or.inl ⟨0, (show decode code 863 = _ from by decide +kernel), rfl, rfl⟩
theorem dL_law_864 {nm : String} : DLi (mLn nm) 864 3 865 := Or.inl ⟨3, (show decode code 864 = _ from by decide +kernel), rfl, rfl⟩
theorem dL_law_865 {nm : String} : DC (mLn nm) 865 2 866 := Or.inl ⟨2, (show decode code 865 = _ from by decide +kernel), by decide, rfl⟩
theorem dL_law_866 {nm : String} : DI (mLn nm) 866 (.iadd) 1 867 := ⟨(show decode code 866 = _ from by decide +kernel), rfl⟩
theorem dL_law_867 {nm : String} : DI (mLn nm) 867 (.iaload) 1 868 := ⟨(show decode code 867 = _ from by decide +kernel), rfl⟩
theorem dL_law_868 {nm : String} : DI (mLn nm) 868 (.invokevirtual 99) 3 871 := ⟨(show decode code 868 = _ from by decide +kernel), rfl⟩
theorem dL_law_871 {nm : String} : DI (mLn nm) 871 (.lcmp) 1 872 := ⟨(show decode code 871 = _ from by decide +kernel), rfl⟩
theorem dL_law_872 {nm : String} : DB (mLn nm) 872 (.ifCond .eq (603)) (603) 875 1475 := ⟨(show decode code 872 = _ from by decide +kernel), rfl, by decide⟩
theorem dL_law_875 {nm : String} : DC (mLn nm) 875 0 876 := Or.inl ⟨0, (show decode code 875 = _ from by decide +kernel), by decide, rfl⟩
theorem dL_law_876 {nm : String} : DRz (mLn nm) 876 := ⟨(show decode code 876 = _ from by decide +kernel), rfl⟩
theorem dL_law_877 {nm : String} : DLa (mLn nm) 877 1 878 := Or.inl ⟨1, (show decode code 877 = _ from by decide +kernel), rfl, rfl⟩
theorem dL_law_878 {nm : String} : DLa (mLn nm) 878 0 879 := Or.inl ⟨0, (show decode code 878 = _ from by decide +kernel), rfl, rfl⟩
theorem dL_law_879 {nm : String} : DLi (mLn nm) 879 3 880 := Or.inl ⟨3, (show decode code 879 = _ from by decide +kernel), rfl, rfl⟩
theorem dL_law_880 {nm : String} : DC (mLn nm) 880 1 881 := Or.inl ⟨1, (show decode code 880 = _ from by decide +kernel), by decide, rfl⟩
theorem dL_law_881 {nm : String} : DI (mLn nm) 881 (.iadd) 1 882 := ⟨(show decode code 881 = _ from by decide +kernel), rfl⟩
theorem dL_law_882 {nm : String} : DI (mLn nm) 882 (.iaload) 1 883 := ⟨(show decode code 882 = _ from by decide +kernel), rfl⟩
theorem dL_law_883 {nm : String} : DLa (mLn nm) 883 0 884 := Or.inl ⟨0, (show decode code 883 = _ from by decide +kernel), rfl, rfl⟩
theorem dL_law_884 {nm : String} : DLi (mLn nm) 884 3 885 := Or.inl ⟨3, (show decode code 884 = _ from by decide +kernel), rfl, rfl⟩
theorem dL_law_885 {nm : String} : DC (mLn nm) 885 2 886 := Or.inl ⟨2, (show decode code 885 = _ from by decide +kernel), by decide, rfl⟩
theorem dL_law_886 {nm : String} : DI (mLn nm) 886 (.iadd) 1 887 := ⟨(show decode code 886 = _ from by decide +kernel), rfl⟩
theorem dL_law_887 {nm : String} : DI (mLn nm) 887 (.iaload) 1 888 := ⟨(show decode code 887 = _ from by decide +kernel), rfl⟩
theorem dL_law_888 {nm : String} : DLa (mLn nm) 888 0 889 := Or.inl ⟨0, (show decode code 888 = _ from by decide +kernel), rfl, rfl⟩
theorem dL_law_889 {nm : String} : DLi (mLn nm) 889 3 890 := Or.inl ⟨3, (show decode code 889 = _ from by decide +kernel), rfl, rfl⟩
theorem dL_law_890 {nm : String} : DC (mLn nm) 890 3 891 := Or.inl ⟨3, (show decode code 890 = _ from by decide +kernel), by decide, rfl⟩
theorem dL_law_891 {nm : String} : DI (mLn nm) 891 (.iadd) 1 892 := ⟨(show decode code 891 = _ from by decide +kernel), rfl⟩
theorem dL_law_892 {nm : String} : DI (mLn nm) 892 (.iaload) 1 893 := ⟨(show decode code 892 = _ from by decide +kernel), rfl⟩
theorem dL_law_893 {nm : String} : DI (mLn nm) 893 (.invokevirtual 100) 3 896 := ⟨(show decode code 893 = _ from by decide +kernel), rfl⟩
theorem dL_law_896 {nm : String} : DLa (mLn nm) 896 2 897 := Or.inl ⟨2, (show decode code 896 = _ from by decide +kernel), rfl, rfl⟩
theorem dL_law_897 {nm : String} : DLa (mLn nm) 897 0 898 := Or.inl ⟨0, (show decode code 897 = _ from by decide +kernel), rfl, rfl⟩
theorem dL_law_898 {nm : String} : DLi (mLn nm) 898 3 899 := Or.inl ⟨3, (show decode code 898 = _ from by decide +kernel), rfl, rfl⟩
theorem dL_law_899 {nm : String} : DC (mLn nm) 899 1 900 := Or.inl ⟨1, (show decode code 899 = _ from by decide +kernel), by decide, rfl⟩
theorem dL_law_900 {nm : String} : DI (mLn nm) 900 (.iadd) 1 901 := ⟨(show decode code 900 = _ from by decide +kernel), rfl⟩
theorem dL_law_901 {nm : String} : DI (mLn nm) 901 (.iaload) 1 902 := ⟨(show decode code 901 = _ from by decide +kernel), rfl⟩
theorem dL_law_902 {nm : String} : DLa (mLn nm) 902 0 903 := Or.inl ⟨0, (show decode code 902 = _ from by decide +kernel), rfl, rfl⟩
theorem dL_law_903 {nm : String} : DLi (mLn nm) 903 3 904 := Or.inl ⟨3, (show decode code 903 = _ from by decide +kernel), rfl, rfl⟩
theorem dL_law_904 {nm : String} : DC (mLn nm) 904 2 905 := Or.inl ⟨2, (show decode code 904 = _ from by decide +kernel), by decide, rfl⟩
theorem dL_law_905 {nm : String} : DI (mLn nm) 905 (.iadd) 1 906 := ⟨(show decode code 905 = _ from by decide +kernel), rfl⟩
theorem dL_law_906 {nm : String} : DI (mLn nm) 906 (.iaload) 1 907 := ⟨(show decode code 906 = _ from by decide +kernel), rfl⟩
theorem dL_law_907 {nm : String} : DLa (mLn nm) 907 0 908 := Or.inl ⟨0, (show decode code 907 = _ from by decide +kernel), rfl, rfl⟩
theorem dL_law_908 {nm : String} : DLi (mLn nm) 908 3 909 := Or.inl ⟨3, (show decode code 908 = _ from by decide +kernel), rfl, rfl⟩
theorem dL_law_909 {nm : String} : DC (mLn nm) 909 3 910 := Or.inl ⟨3, (show decode code 909 = _ from by decide +kernel), by decide, rfl⟩
theorem dL_law_910 {nm : String} : DI (mLn nm) 910 (.iadd) 1 911 := ⟨(show decode code 910 = _ from by decide +kernel), rfl⟩
theorem dL_law_911 {nm : String} : DI (mLn nm) 911 (.iaload) 1 912 := ⟨(show decode code 911 = _ from by decide +kernel), rfl⟩
theorem dL_law_912 {nm : String} : DI (mLn nm) 912 (.invokevirtual 103) 3 915 := ⟨(show decode code 912 = _ from by decide +kernel), rfl⟩
theorem dL_law_915 {nm : String} : DB (mLn nm) 915 (.if_icmp .eq (560)) (560) 918 1475 := ⟨(show decode code 915 = _ from by decide +kernel), rfl, by decide⟩
theorem dL_law_918 {nm : String} : DC (mLn nm) 918 0 919 := Or.inl ⟨0, (show decode code 918 = _ from by decide +kernel), by decide, rfl⟩
theorem dL_law_919 {nm : String} : DRz (mLn nm) 919 := ⟨(show decode code 919 = _ from by decide +kernel), rfl⟩
theorem dL_law_920 {nm : String} : DLa (mLn nm) 920 1 921 := Or.inl ⟨1, (show decode code 920 = _ from by decide +kernel), rfl, rfl⟩
theorem dL_law_921 {nm : String} : DLa (mLn nm) 921 0 922 := Or.inl ⟨0, (show decode code 921 = _ from by decide +kernel), rfl, rfl⟩
theorem dL_law_922 {nm : String} : DLi (mLn nm) 922 3 923 := Or.inl ⟨3, (show decode code 922 = _ from by decide +kernel), rfl, rfl⟩
theorem dL_law_923 {nm : String} : DC (mLn nm) 923 1 924 := Or.inl ⟨1, (show decode code 923 = _ from by decide +kernel), by decide, rfl⟩
theorem dL_law_924 {nm : String} : DI (mLn nm) 924 (.iadd) 1 925 := ⟨(show decode code 924 = _ from by decide +kernel), rfl⟩
theorem dL_law_925 {nm : String} : DI (mLn nm) 925 (.iaload) 1 926 := ⟨(show decode code 925 = _ from by decide +kernel), rfl⟩
theorem dL_law_926 {nm : String} : DLa (mLn nm) 926 0 927 := Or.inl ⟨0, (show decode code 926 = _ from by decide +kernel), rfl, rfl⟩
theorem dL_law_927 {nm : String} : DLi (mLn nm) 927 3 928 := Or.inl ⟨3, (show decode code 927 = _ from by decide +kernel), rfl, rfl⟩
theorem dL_law_928 {nm : String} : DC (mLn nm) 928 2 929 := Or.inl ⟨2, (show decode code 928 = _ from by decide +kernel), by decide, rfl⟩
theorem dL_law_929 {nm : String} : DI (mLn nm) 929 (.iadd) 1 930 := ⟨(show decode code 929 = _ from by decide +kernel), rfl⟩
theorem dL_law_930 {nm : String} : DI (mLn nm) 930 (.iaload) 1 931 := ⟨(show decode code 930 = _ from by decide +kernel), rfl⟩
theorem dL_law_931 {nm : String} : DLa (mLn nm) 931 0 932 := Or.inl ⟨0, (show decode code 931 = _ from by decide +kernel), rfl, rfl⟩
theorem dL_law_932 {nm : String} : DLi (mLn nm) 932 3 933 := Or.inl ⟨3, (show decode code 932 = _ from by decide +kernel), rfl, rfl⟩
theorem dL_law_933 {nm : String} : DC (mLn nm) 933 3 934 := Or.inl ⟨3, (show decode code 933 = _ from by decide +kernel), by decide, rfl⟩
theorem dL_law_934 {nm : String} : DI (mLn nm) 934 (.iadd) 1 935 := ⟨(show decode code 934 = _ from by decide +kernel), rfl⟩
theorem dL_law_935 {nm : String} : DI (mLn nm) 935 (.iaload) 1 936 := ⟨(show decode code 935 = _ from by decide +kernel), rfl⟩
theorem dL_law_936 {nm : String} : DI (mLn nm) 936 (.invokevirtual 104) 3 939 := ⟨(show decode code 936 = _ from by decide +kernel), rfl⟩
theorem dL_law_939 {nm : String} : DLa (mLn nm) 939 2 940 := Or.inl ⟨2, (show decode code 939 = _ from by decide +kernel), rfl, rfl⟩
theorem dL_law_940 {nm : String} : DLa (mLn nm) 940 0 941 := Or.inl ⟨0, (show decode code 940 = _ from by decide +kernel), rfl, rfl⟩
theorem dL_law_941 {nm : String} : DLi (mLn nm) 941 3 942 := Or.inl ⟨3, (show decode code 941 = _ from by decide +kernel), rfl, rfl⟩
theorem dL_law_942 {nm : String} : DC (mLn nm) 942 1 943 := Or.inl ⟨1, (show decode code 942 = _ from by decide +kernel), by decide, rfl⟩
theorem dL_law_943 {nm : String} : DI (mLn nm) 943 (.iadd) 1 944 := ⟨(show decode code 943 = _ from by decide +kernel), rfl⟩
theorem dL_law_944 {nm : String} : DI (mLn nm) 944 (.iaload) 1 945 := ⟨(show decode code 944 = _ from by decide +kernel), rfl⟩
theorem dL_law_945 {nm : String} : DLa (mLn nm) 945 0 946 := Or.inl ⟨0, (show decode code 945 = _ from by decide +kernel), rfl, rfl⟩
theorem dL_law_946 {nm : String} : DLi (mLn nm) 946 3 947 := Or.inl ⟨3, (show decode code 946 = _ from by decide +kernel), rfl, rfl⟩
theorem dL_law_947 {nm : String} : DC (mLn nm) 947 2 948 := Or.inl ⟨2, (show decode code 947 = _ from by decide +kernel), by decide, rfl⟩
theorem dL_law_948 {nm : String} : DI (mLn nm) 948 (.iadd) 1 949 := ⟨(show decode code 948 = _ from by decide +kernel), rfl⟩
theorem dL_law_949 {nm : String} : DI (mLn nm) 949 (.iaload) 1 950 := ⟨(show decode code 949 = _ from by decide +kernel), rfl⟩
theorem dL_law_950 {nm : String} : DLa (mLn nm) 950 0 951 := Or.inl ⟨0, (show decode code 950 = _ from by decide +kernel), rfl, rfl⟩
theorem dL_law_951 {nm : String} : DLi (mLn nm) 951 3 952 := Or.inl ⟨3, (show decode code 951 = _ from by decide +kernel), rfl, rfl⟩
theorem dL_law_952 {nm : String} : DC (mLn nm) 952 3 953 := Or.inl ⟨3, (show decode code 952 = _ from by decide +kernel), by decide, rfl⟩
theorem dL_law_953 {nm : String} : DI (mLn nm) 953 (.iadd) 1 954 := ⟨(show decode code 953 = _ from by decide +kernel), rfl⟩
theorem dL_law_954 {nm : String} : DI (mLn nm) 954 (.iaload) 1 955 := ⟨(show decode code 954 = _ from by decide +kernel), rfl⟩
theorem dL_law_955 {nm : String} : DI (mLn nm) 955 (.invokevirtual 107) 3 958 := ⟨(show decode code 955 = _ from by decide +kernel), rfl⟩
theorem dL_law_958 {nm : String} : DB (mLn nm) 958 (.if_icmp .eq (517)) (517) 961 1475 := ⟨(show decode code 958 = _ from by decide +kernel), rfl, by decide⟩
theorem dL_law_961 {nm : String} : DC (mLn nm) 961 0 962 := Or.inl ⟨0, (show decode code 961 = _ from by decide +kernel), by decide, rfl⟩
theorem dL_law_962 {nm : String} : DRz (mLn nm) 962 := ⟨(show decode code 962 = _ from by decide +kernel), rfl⟩
theorem dL_law_963 {nm : String} : DLa (mLn nm) 963 1 964 := Or.inl ⟨1, (show decode code 963 = _ from by decide +kernel), rfl, rfl⟩
theorem dL_law_964 {nm : String} : DLa (mLn nm) 964 0 965 := Or.inl ⟨0, (show decode code 964 = _ from by decide +kernel), rfl, rfl⟩
theorem dL_law_965 {nm : String} : DLi (mLn nm) 965 3 966 := Or.inl ⟨3, (show decode code 965 = _ from by decide +kernel), rfl, rfl⟩
theorem dL_law_966 {nm : String} : DC (mLn nm) 966 1 967 := Or.inl ⟨1, (show decode code 966 = _ from by decide +kernel), by decide, rfl⟩
theorem dL_law_967 {nm : String} : DI (mLn nm) 967 (.iadd) 1 968 := ⟨(show decode code 967 = _ from by decide +kernel), rfl⟩
theorem dL_law_968 {nm : String} : DI (mLn nm) 968 (.iaload) 1 969 := ⟨(show decode code 968 = _ from by decide +kernel), rfl⟩
theorem dL_law_969 {nm : String} : DI (mLn nm) 969 (.invokevirtual 108) 3 972 := ⟨(show decode code 969 = _ from by decide +kernel), rfl⟩
theorem dL_law_972 {nm : String} : DLa (mLn nm) 972 2 973 := Or.inl ⟨2, (show decode code 972 = _ from by decide +kernel), rfl, rfl⟩
theorem dL_law_973 {nm : String} : DLa (mLn nm) 973 0 974 := Or.inl ⟨0, (show decode code 973 = _ from by decide +kernel), rfl, rfl⟩
theorem dL_law_974 {nm : String} : DLi (mLn nm) 974 3 975 := Or.inl ⟨3, (show decode code 974 = _ from by decide +kernel), rfl, rfl⟩
theorem dL_law_975 {nm : String} : DC (mLn nm) 975 1 976 := Or.inl ⟨1, (show decode code 975 = _ from by decide +kernel), by decide, rfl⟩
theorem dL_law_976 {nm : String} : DI (mLn nm) 976 (.iadd) 1 977 := ⟨(show decode code 976 = _ from by decide +kernel), rfl⟩
theorem dL_law_977 {nm : String} : DI (mLn nm) 977 (.iaload) 1 978 := ⟨(show decode code 977 = _ from by decide +kernel), rfl⟩
theorem dL_law_978 {nm : String} : DI (mLn nm) 978 (.invokevirtual 111) 3 981 := ⟨(show decode code 978 = _ from by decide +kernel), rfl⟩
theorem dL_law_981 {nm : String} : DB (mLn nm) 981 (.if_icmp .eq (494)) (494) 984 1475 := ⟨(show decode code 981 = _ from by decide +kernel), rfl, by decide⟩
theorem dL_law_984 {nm : String} : DC (mLn nm) 984 0 985 := Or.inl ⟨0, (show decode code 984 = _ from by decide +kernel), by decide, rfl⟩
theorem dL_law_985 {nm : String} : DRz (mLn nm) 985 := ⟨(show decode code 985 = _ from by decide +kernel), rfl⟩
theorem dL_law_986 {nm : String} : DLa (mLn nm) 986 1 987 := Or.inl ⟨1, (show decode code 986 = _ from by decide +kernel), rfl, rfl⟩
theorem dL_law_987 {nm : String} : DLa (mLn nm) 987 0 988 := Or.inl ⟨0, (show decode code 987 = _ from by decide +kernel), rfl, rfl⟩
theorem dL_law_988 {nm : String} : DLi (mLn nm) 988 3 989 := Or.inl ⟨3, (show decode code 988 = _ from by decide +kernel), rfl, rfl⟩
theorem dL_law_989 {nm : String} : DC (mLn nm) 989 1 990 := Or.inl ⟨1, (show decode code 989 = _ from by decide +kernel), by decide, rfl⟩
theorem dL_law_990 {nm : String} : DI (mLn nm) 990 (.iadd) 1 991 := ⟨(show decode code 990 = _ from by decide +kernel), rfl⟩
theorem dL_law_991 {nm : String} : DI (mLn nm) 991 (.iaload) 1 992 := ⟨(show decode code 991 = _ from by decide +kernel), rfl⟩
theorem dL_law_992 {nm : String} : DI (mLn nm) 992 (.invokevirtual 112) 3 995 := ⟨(show decode code 992 = _ from by decide +kernel), rfl⟩
theorem dL_law_995 {nm : String} : DLa (mLn nm) 995 2 996 := Or.inl ⟨2, (show decode code 995 = _ from by decide +kernel), rfl, rfl⟩
theorem dL_law_996 {nm : String} : DLa (mLn nm) 996 0 997 := Or.inl ⟨0, (show decode code 996 = _ from by decide +kernel), rfl, rfl⟩
theorem dL_law_997 {nm : String} : DLi (mLn nm) 997 3 998 := Or.inl ⟨3, (show decode code 997 = _ from by decide +kernel), rfl, rfl⟩
theorem dL_law_998 {nm : String} : DC (mLn nm) 998 1 999 := Or.inl ⟨1, (show decode code 998 = _ from by decide +kernel), by decide, rfl⟩
theorem dL_law_999 {nm : String} : DI (mLn nm) 999 (.iadd) 1 1000 := ⟨(show decode code 999 = _ from by decide +kernel), rfl⟩
theorem dL_law_1000 {nm : String} : DI (mLn nm) 1000 (.iaload) 1 1001 := ⟨(show decode code 1000 = _ from by decide +kernel), rfl⟩
theorem dL_law_1001 {nm : String} : DI (mLn nm) 1001 (.invokevirtual 115) 3 1004 := ⟨(show decode code 1001 = _ from by decide +kernel), rfl⟩
theorem dL_law_1004 {nm : String} : DB (mLn nm) 1004 (.if_icmp .eq (471)) (471) 1007 1475 := ⟨(show decode code 1004 = _ from by decide +kernel), rfl, by decide⟩
theorem dL_law_1007 {nm : String} : DC (mLn nm) 1007 0 1008 := Or.inl ⟨0, (show decode code 1007 = _ from by decide +kernel), by decide, rfl⟩
theorem dL_law_1008 {nm : String} : DRz (mLn nm) 1008 := ⟨(show decode code 1008 = _ from by decide +kernel), rfl⟩
theorem dL_law_1009 {nm : String} : DLa (mLn nm) 1009 1 1010 := Or.inl ⟨1, (show decode code 1009 = _ from by decide +kernel), rfl, rfl⟩
theorem dL_law_1010 {nm : String} : DLa (mLn nm) 1010 0 1011 := Or.inl ⟨0, (show decode code 1010 = _ from by decide +kernel), rfl, rfl⟩
theorem dL_law_1011 {nm : String} : DLi (mLn nm) 1011 3 1012 := Or.inl ⟨3, (show decode code 1011 = _ from by decide +kernel), rfl, rfl⟩
theorem dL_law_1012 {nm : String} : DC (mLn nm) 1012 1 1013 := Or.inl ⟨1, (show decode code 1012 = _ from by decide +kernel), by decide, rfl⟩
theorem dL_law_1013 {nm : String} : DI (mLn nm) 1013 (.iadd) 1 1014 := ⟨(show decode code 1013 = _ from by decide +kernel), rfl⟩
theorem dL_law_1014 {nm : String} : DI (mLn nm) 1014 (.iaload) 1 1015 := ⟨(show decode code 1014 = _ from by decide +kernel), rfl⟩
theorem dL_law_1015 {nm : String} : DI (mLn nm) 1015 (.invokevirtual 116) 3 1018 := ⟨(show decode code 1015 = _ from by decide +kernel), rfl⟩
theorem dL_law_1018 {nm : String} : DLa (mLn nm) 1018 2 1019 := Or.inl ⟨2, (show decode code 1018 = _ from by decide +kernel), rfl, rfl⟩
theorem dL_law_1019 {nm : String} : DLa (mLn nm) 1019 0 1020 := Or.inl ⟨0, (show decode code 1019 = _ from by decide +kernel), rfl, rfl⟩
theorem dL_law_1020 {nm : String} : DLi (mLn nm) 1020 3 1021 := Or.inl ⟨3, (show decode code 1020 = _ from by decide +kernel), rfl, rfl⟩
theorem dL_law_1021 {nm : String} : DC (mLn nm) 1021 1 1022 := Or.inl ⟨1, (show decode code 1021 = _ from by decide +kernel), by decide, rfl⟩
theorem dL_law_1022 {nm : String} : DI (mLn nm) 1022 (.iadd) 1 1023 := ⟨(show decode code 1022 = _ from by decide +kernel), rfl⟩
theorem dL_law_1023 {nm : String} : DI (mLn nm) 1023 (.iaload) 1 1024 := ⟨(show decode code 1023 = _ from by decide +kernel), rfl⟩
theorem dL_law_1024 {nm : String} : DI (mLn nm) 1024 (.invokevirtual 119) 3 1027 := ⟨(show decode code 1024 = _ from by decide +kernel), rfl⟩
theorem dL_law_1027 {nm : String} : DB (mLn nm) 1027 (.if_icmp .eq (448)) (448) 1030 1475 := ⟨(show decode code 1027 = _ from by decide +kernel), rfl, by decide⟩
theorem dL_law_1030 {nm : String} : DC (mLn nm) 1030 0 1031 := Or.inl ⟨0, (show decode code 1030 = _ from by decide +kernel), by decide, rfl⟩
theorem dL_law_1031 {nm : String} : DRz (mLn nm) 1031 := ⟨(show decode code 1031 = _ from by decide +kernel), rfl⟩
theorem dL_law_1032 {nm : String} : DLa (mLn nm) 1032 1 1033 := Or.inl ⟨1, (show decode code 1032 = _ from by decide +kernel), rfl, rfl⟩
theorem dL_law_1033 {nm : String} : DI (mLn nm) 1033 (.invokevirtual 120) 3 1036 := ⟨(show decode code 1033 = _ from by decide +kernel), rfl⟩
theorem dL_law_1036 {nm : String} : DLa (mLn nm) 1036 2 1037 := Or.inl ⟨2, (show decode code 1036 = _ from by decide +kernel), rfl, rfl⟩
theorem dL_law_1037 {nm : String} : DI (mLn nm) 1037 (.invokevirtual 123) 3 1040 := ⟨(show decode code 1037 = _ from by decide +kernel), rfl⟩
theorem dL_law_1040 {nm : String} : DB (mLn nm) 1040 (.if_icmp .eq (435)) (435) 1043 1475 := ⟨(show decode code 1040 = _ from by decide +kernel), rfl, by decide⟩
theorem dL_law_1043 {nm : String} : DC (mLn nm) 1043 0 1044 := Or.inl ⟨0, (show decode code 1043 = _ from by decide +kernel), by decide, rfl⟩
theorem dL_law_1044 {nm : String} : DRz (mLn nm) 1044 := ⟨(show decode code 1044 = _ from by decide +kernel), rfl⟩
theorem dL_law_1045 {nm : String} : DLa (mLn nm) 1045 1 1046 := Or.inl ⟨1, (show decode code 1045 = _ from by decide +kernel), rfl, rfl⟩
theorem dL_law_1046 {nm : String} : DI (mLn nm) 1046 (.invokevirtual 124) 3 1049 := ⟨(show decode code 1046 = _ from by decide +kernel), rfl⟩
theorem dL_law_1049 {nm : String} : DLa (mLn nm) 1049 2 1050 := Or.inl ⟨2, (show decode code 1049 = _ from by decide +kernel), rfl, rfl⟩
theorem dL_law_1050 {nm : String} : DI (mLn nm) 1050 (.invokevirtual 127) 3 1053 := ⟨(show decode code 1050 = _ from by decide +kernel), rfl⟩
theorem dL_law_1053 {nm : String} : DB (mLn nm) 1053 (.if_icmp .eq (422)) (422) 1056 1475 := ⟨(show decode code 1053 = _ from by decide +kernel), rfl, by decide⟩
theorem dL_law_1056 {nm : String} : DC (mLn nm) 1056 0 1057 := Or.inl ⟨0, (show decode code 1056 = _ from by decide +kernel), by decide, rfl⟩
theorem dL_law_1057 {nm : String} : DRz (mLn nm) 1057 := ⟨(show decode code 1057 = _ from by decide +kernel), rfl⟩
theorem dL_law_1058 {nm : String} : DLa (mLn nm) 1058 1 1059 := Or.inl ⟨1, (show decode code 1058 = _ from by decide +kernel), rfl, rfl⟩
theorem dL_law_1059 {nm : String} : DI (mLn nm) 1059 (.invokevirtual 128) 3 1062 := ⟨(show decode code 1059 = _ from by decide +kernel), rfl⟩
theorem dL_law_1062 {nm : String} : DLa (mLn nm) 1062 2 1063 := Or.inl ⟨2, (show decode code 1062 = _ from by decide +kernel), rfl, rfl⟩
theorem dL_law_1063 {nm : String} : DI (mLn nm) 1063 (.invokevirtual 131) 3 1066 := ⟨(show decode code 1063 = _ from by decide +kernel), rfl⟩
theorem dL_law_1066 {nm : String} : DB (mLn nm) 1066 (.if_icmp .eq (409)) (409) 1069 1475 := ⟨(show decode code 1066 = _ from by decide +kernel), rfl, by decide⟩
theorem dL_law_1069 {nm : String} : DC (mLn nm) 1069 0 1070 := Or.inl ⟨0, (show decode code 1069 = _ from by decide +kernel), by decide, rfl⟩
theorem dL_law_1070 {nm : String} : DRz (mLn nm) 1070 := ⟨(show decode code 1070 = _ from by decide +kernel), rfl⟩
theorem dL_law_1071 {nm : String} : DLa (mLn nm) 1071 1 1072 := Or.inl ⟨1, (show decode code 1071 = _ from by decide +kernel), rfl, rfl⟩
theorem dL_law_1072 {nm : String} : DI (mLn nm) 1072 (.invokevirtual 132) 3 1075 := ⟨(show decode code 1072 = _ from by decide +kernel), rfl⟩
theorem dL_law_1075 {nm : String} : DLa (mLn nm) 1075 2 1076 := Or.inl ⟨2, (show decode code 1075 = _ from by decide +kernel), rfl, rfl⟩
theorem dL_law_1076 {nm : String} : DI (mLn nm) 1076 (.invokevirtual 135) 3 1079 := ⟨(show decode code 1076 = _ from by decide +kernel), rfl⟩
theorem dL_law_1079 {nm : String} : DB (mLn nm) 1079 (.if_icmp .eq (396)) (396) 1082 1475 := ⟨(show decode code 1079 = _ from by decide +kernel), rfl, by decide⟩
theorem dL_law_1082 {nm : String} : DC (mLn nm) 1082 0 1083 := Or.inl ⟨0, (show decode code 1082 = _ from by decide +kernel), by decide, rfl⟩
theorem dL_law_1083 {nm : String} : DRz (mLn nm) 1083 := ⟨(show decode code 1083 = _ from by decide +kernel), rfl⟩
theorem dL_law_1084 {nm : String} : DLa (mLn nm) 1084 1 1085 := Or.inl ⟨1, (show decode code 1084 = _ from by decide +kernel), rfl, rfl⟩
theorem dL_law_1085 {nm : String} : DLa (mLn nm) 1085 0 1086 := Or.inl ⟨0, (show decode code 1085 = _ from by decide +kernel), rfl, rfl⟩
theorem dL_law_1086 {nm : String} : DLi (mLn nm) 1086 3 1087 := Or.inl ⟨3, (show decode code 1086 = _ from by decide +kernel), rfl, rfl⟩
theorem dL_law_1087 {nm : String} : DC (mLn nm) 1087 1 1088 := Or.inl ⟨1, (show decode code 1087 = _ from by decide +kernel), by decide, rfl⟩
theorem dL_law_1088 {nm : String} : DI (mLn nm) 1088 (.iadd) 1 1089 := ⟨(show decode code 1088 = _ from by decide +kernel), rfl⟩
theorem dL_law_1089 {nm : String} : DI (mLn nm) 1089 (.iaload) 1 1090 := ⟨(show decode code 1089 = _ from by decide +kernel), rfl⟩
theorem dL_law_1090 {nm : String} : DI (mLn nm) 1090 (.invokevirtual 136) 3 1093 := ⟨(show decode code 1090 = _ from by decide +kernel), rfl⟩
theorem dL_law_1093 {nm : String} : DLa (mLn nm) 1093 2 1094 := Or.inl ⟨2, (show decode code 1093 = _ from by decide +kernel), rfl, rfl⟩
theorem dL_law_1094 {nm : String} : DLa (mLn nm) 1094 0 1095 := Or.inl ⟨0, (show decode code 1094 = _ from by decide +kernel), rfl, rfl⟩
theorem dL_law_1095 {nm : String} : DLi (mLn nm) 1095 3 1096 := Or.inl ⟨3, (show decode code 1095 = _ from by decide +kernel), rfl, rfl⟩
theorem dL_law_1096 {nm : String} : DC (mLn nm) 1096 1 1097 := Or.inl ⟨1, (show decode code 1096 = _ from by decide +kernel), by decide, rfl⟩
theorem dL_law_1097 {nm : String} : DI (mLn nm) 1097 (.iadd) 1 1098 := ⟨(show decode code 1097 = _ from by decide +kernel), rfl⟩
theorem dL_law_1098 {nm : String} : DI (mLn nm) 1098 (.iaload) 1 1099 := ⟨(show decode code 1098 = _ from by decide +kernel), rfl⟩
theorem dL_law_1099 {nm : String} : DI (mLn nm) 1099 (.invokevirtual 139) 3 1102 := ⟨(show decode code 1099 = _ from by decide +kernel), rfl⟩
theorem dL_law_1102 {nm : String} : DB (mLn nm) 1102 (.if_icmp .eq (373)) (373) 1105 1475 := ⟨(show decode code 1102 = _ from by decide +kernel), rfl, by decide⟩
theorem dL_law_1105 {nm : String} : DC (mLn nm) 1105 0 1106 := Or.inl ⟨0, (show decode code 1105 = _ from by decide +kernel), by decide, rfl⟩
theorem dL_law_1106 {nm : String} : DRz (mLn nm) 1106 := ⟨(show decode code 1106 = _ from by decide +kernel), rfl⟩
theorem dL_law_1107 {nm : String} : DLa (mLn nm) 1107 1 1108 := Or.inl ⟨1, (show decode code 1107 = _ from by decide +kernel), rfl, rfl⟩
theorem dL_law_1108 {nm : String} : DLa (mLn nm) 1108 0 1109 := Or.inl ⟨0, (show decode code 1108 = _ from by decide +kernel), rfl, rfl⟩
theorem dL_law_1109 {nm : String} : DLi (mLn nm) 1109 3 1110 := Or.inl ⟨3, (show decode code 1109 = _ from by decide +kernel), rfl, rfl⟩
theorem dL_law_1110 {nm : String} : DC (mLn nm) 1110 1 1111 := Or.inl ⟨1, (show decode code 1110 = _ from by decide +kernel), by decide, rfl⟩
theorem dL_law_1111 {nm : String} : DI (mLn nm) 1111 (.iadd) 1 1112 := ⟨(show decode code 1111 = _ from by decide +kernel), rfl⟩
theorem dL_law_1112 {nm : String} : DI (mLn nm) 1112 (.iaload) 1 1113 := ⟨(show decode code 1112 = _ from by decide +kernel), rfl⟩
theorem dL_law_1113 {nm : String} : DLa (mLn nm) 1113 0 1114 := Or.inl ⟨0, (show decode code 1113 = _ from by decide +kernel), rfl, rfl⟩
theorem dL_law_1114 {nm : String} : DLi (mLn nm) 1114 3 1115 := Or.inl ⟨3, (show decode code 1114 = _ from by decide +kernel), rfl, rfl⟩
theorem dL_law_1115 {nm : String} : DC (mLn nm) 1115 2 1116 := Or.inl ⟨2, (show decode code 1115 = _ from by decide +kernel), by decide, rfl⟩
theorem dL_law_1116 {nm : String} : DI (mLn nm) 1116 (.iadd) 1 1117 := ⟨(show decode code 1116 = _ from by decide +kernel), rfl⟩
theorem dL_law_1117 {nm : String} : DI (mLn nm) 1117 (.iaload) 1 1118 := ⟨(show decode code 1117 = _ from by decide +kernel), rfl⟩
theorem dL_law_1118 {nm : String} : DLa (mLn nm) 1118 0 1119 := Or.inl ⟨0, (show decode code 1118 = _ from by decide +kernel), rfl, rfl⟩
theorem dL_law_1119 {nm : String} : DLi (mLn nm) 1119 3 1120 := Or.inl ⟨3, (show decode code 1119 = _ from by decide +kernel), rfl, rfl⟩
theorem dL_law_1120 {nm : String} : DC (mLn nm) 1120 3 1121 := Or.inl ⟨3, (show decode code 1120 = _ from by decide +kernel), by decide, rfl⟩
theorem dL_law_1121 {nm : String} : DI (mLn nm) 1121 (.iadd) 1 1122 := ⟨(show decode code 1121 = _ from by decide +kernel), rfl⟩
theorem dL_law_1122 {nm : String} : DI (mLn nm) 1122 (.iaload) 1 1123 := ⟨(show decode code 1122 = _ from by decide +kernel), rfl⟩
theorem dL_law_1123 {nm : String} : DI (mLn nm) 1123 (.invokevirtual 140) 3 1126 := ⟨(show decode code 1123 = _ from by decide +kernel), rfl⟩
theorem dL_law_1126 {nm : String} : DLa (mLn nm) 1126 2 1127 := Or.inl ⟨2, (show decode code 1126 = _ from by decide +kernel), rfl, rfl⟩
theorem dL_law_1127 {nm : String} : DLa (mLn nm) 1127 0 1128 := Or.inl ⟨0, (show decode code 1127 = _ from by decide +kernel), rfl, rfl⟩
theorem dL_law_1128 {nm : String} : DLi (mLn nm) 1128 3 1129 := Or.inl ⟨3, (show decode code 1128 = _ from by decide +kernel), rfl, rfl⟩
theorem dL_law_1129 {nm : String} : DC (mLn nm) 1129 1 1130 := Or.inl ⟨1, (show decode code 1129 = _ from by decide +kernel), by decide, rfl⟩
theorem dL_law_1130 {nm : String} : DI (mLn nm) 1130 (.iadd) 1 1131 := ⟨(show decode code 1130 = _ from by decide +kernel), rfl⟩
theorem dL_law_1131 {nm : String} : DI (mLn nm) 1131 (.iaload) 1 1132 := ⟨(show decode code 1131 = _ from by decide +kernel), rfl⟩
theorem dL_law_1132 {nm : String} : DLa (mLn nm) 1132 0 1133 := Or.inl ⟨0, (show decode code 1132 = _ from by decide +kernel), rfl, rfl⟩
theorem dL_law_1133 {nm : String} : DLi (mLn nm) 1133 3 1134 := Or.inl ⟨3, (show decode code 1133 = _ from by decide +kernel), rfl, rfl⟩
theorem dL_law_1134 {nm : String} : DC (mLn nm) 1134 2 1135 := Or.inl ⟨2, (show decode code 1134 = _ from by decide +kernel), by decide, rfl⟩
theorem dL_law_1135 {nm : String} : DI (mLn nm) 1135 (.iadd) 1 1136 := ⟨(show decode code 1135 = _ from by decide +kernel), rfl⟩
theorem dL_law_1136 {nm : String} : DI (mLn nm) 1136 (.iaload) 1 1137 := ⟨(show decode code 1136 = _ from by decide +kernel), rfl⟩
theorem dL_law_1137 {nm : String} : DLa (mLn nm) 1137 0 1138 := Or.inl ⟨0, (show decode code 1137 = _ from by decide +kernel), rfl, rfl⟩
theorem dL_law_1138 {nm : String} : DLi (mLn nm) 1138 3 1139 := Or.inl ⟨3, (show decode code 1138 = _ from by decide +kernel), rfl, rfl⟩
theorem dL_law_1139 {nm : String} : DC (mLn nm) 1139 3 1140 := Or.inl ⟨3, (show decode code 1139 = _ from by decide +kernel), by decide, rfl⟩
theorem dL_law_1140 {nm : String} : DI (mLn nm) 1140 (.iadd) 1 1141 := ⟨(show decode code 1140 = _ from by decide +kernel), rfl⟩
theorem dL_law_1141 {nm : String} : DI (mLn nm) 1141 (.iaload) 1 1142 := ⟨(show decode code 1141 = _ from by decide +kernel), rfl⟩
theorem dL_law_1142 {nm : String} : DI (mLn nm) 1142 (.invokevirtual 143) 3 1145 := ⟨(show decode code 1142 = _ from by decide +kernel), rfl⟩
theorem dL_law_1145 {nm : String} : DB (mLn nm) 1145 (.if_icmp .eq (330)) (330) 1148 1475 := ⟨(show decode code 1145 = _ from by decide +kernel), rfl, by decide⟩
theorem dL_law_1148 {nm : String} : DC (mLn nm) 1148 0 1149 := Or.inl ⟨0, (show decode code 1148 = _ from by decide +kernel), by decide, rfl⟩
theorem dL_law_1149 {nm : String} : DRz (mLn nm) 1149 := ⟨(show decode code 1149 = _ from by decide +kernel), rfl⟩
theorem dL_law_1150 {nm : String} : DLa (mLn nm) 1150 1 1151 := Or.inl ⟨1, (show decode code 1150 = _ from by decide +kernel), rfl, rfl⟩
theorem dL_law_1151 {nm : String} : DLa (mLn nm) 1151 0 1152 := Or.inl ⟨0, (show decode code 1151 = _ from by decide +kernel), rfl, rfl⟩
theorem dL_law_1152 {nm : String} : DLi (mLn nm) 1152 3 1153 := Or.inl ⟨3, (show decode code 1152 = _ from by decide +kernel), rfl, rfl⟩
theorem dL_law_1153 {nm : String} : DC (mLn nm) 1153 1 1154 := Or.inl ⟨1, (show decode code 1153 = _ from by decide +kernel), by decide, rfl⟩
theorem dL_law_1154 {nm : String} : DI (mLn nm) 1154 (.iadd) 1 1155 := ⟨(show decode code 1154 = _ from by decide +kernel), rfl⟩
theorem dL_law_1155 {nm : String} : DI (mLn nm) 1155 (.iaload) 1 1156 := ⟨(show decode code 1155 = _ from by decide +kernel), rfl⟩
theorem dL_law_1156 {nm : String} : DI (mLn nm) 1156 (.invokevirtual 144) 3 1159 := ⟨(show decode code 1156 = _ from by decide +kernel), rfl⟩
theorem dL_law_1159 {nm : String} : DLa (mLn nm) 1159 2 1160 := Or.inl ⟨2, (show decode code 1159 = _ from by decide +kernel), rfl, rfl⟩
theorem dL_law_1160 {nm : String} : DLa (mLn nm) 1160 0 1161 := Or.inl ⟨0, (show decode code 1160 = _ from by decide +kernel), rfl, rfl⟩
theorem dL_law_1161 {nm : String} : DLi (mLn nm) 1161 3 1162 := Or.inl ⟨3, (show decode code 1161 = _ from by decide +kernel), rfl, rfl⟩
theorem dL_law_1162 {nm : String} : DC (mLn nm) 1162 1 1163 := Or.inl ⟨1, (show decode code 1162 = _ from by decide +kernel), by decide, rfl⟩
theorem dL_law_1163 {nm : String} : DI (mLn nm) 1163 (.iadd) 1 1164 := ⟨(show decode code 1163 = _ from by decide +kernel), rfl⟩
theorem dL_law_1164 {nm : String} : DI (mLn nm) 1164 (.iaload) 1 1165 := ⟨(show decode code 1164 = _ from by decide +kernel), rfl⟩
theorem dL_law_1165 {nm : String} : DI (mLn nm) 1165 (.invokevirtual 147) 3 1168 := ⟨(show decode code 1165 = _ from by decide +kernel), rfl⟩
theorem dL_law_1168 {nm : String} : DB (mLn nm) 1168 (.if_icmp .eq (307)) (307) 1171 1475 := ⟨(show decode code 1168 = _ from by decide +kernel), rfl, by decide⟩
theorem dL_law_1171 {nm : String} : DC (mLn nm) 1171 0 1172 := Or.inl ⟨0, (show decode code 1171 = _ from by decide +kernel), by decide, rfl⟩
theorem dL_law_1172 {nm : String} : DRz (mLn nm) 1172 := ⟨(show decode code 1172 = _ from by decide +kernel), rfl⟩
theorem dL_law_1173 {nm : String} : DLa (mLn nm) 1173 1 1174 := Or.inl ⟨1, (show decode code 1173 = _ from by decide +kernel), rfl, rfl⟩
theorem dL_law_1174 {nm : String} : DLa (mLn nm) 1174 0 1175 := Or.inl ⟨0, (show decode code 1174 = _ from by decide +kernel), rfl, rfl⟩
theorem dL_law_1175 {nm : String} : DLi (mLn nm) 1175 3 1176 := Or.inl ⟨3, (show decode code 1175 = _ from by decide +kernel), rfl, rfl⟩
theorem dL_law_1176 {nm : String} : DC (mLn nm) 1176 1 1177 := Or.inl ⟨1, (show decode code 1176 = _ from by decide +kernel), by decide, rfl⟩
theorem dL_law_1177 {nm : String} : DI (mLn nm) 1177 (.iadd) 1 1178 := ⟨(show decode code 1177 = _ from by decide +kernel), rfl⟩
theorem dL_law_1178 {nm : String} : DI (mLn nm) 1178 (.iaload) 1 1179 := ⟨(show decode code 1178 = _ from by decide +kernel), rfl⟩
theorem dL_law_1179 {nm : String} : DLa (mLn nm) 1179 0 1180 := Or.inl ⟨0, (show decode code 1179 = _ from by decide +kernel), rfl, rfl⟩
theorem dL_law_1180 {nm : String} : DLi (mLn nm) 1180 3 1181 := Or.inl ⟨3, (show decode code 1180 = _ from by decide +kernel), rfl, rfl⟩
theorem dL_law_1181 {nm : String} : DC (mLn nm) 1181 2 1182 := Or.inl ⟨2, (show decode code 1181 = _ from by decide +kernel), by decide, rfl⟩
theorem dL_law_1182 {nm : String} : DI (mLn nm) 1182 (.iadd) 1 1183 := ⟨(show decode code 1182 = _ from by decide +kernel), rfl⟩
theorem dL_law_1183 {nm : String} : DI (mLn nm) 1183 (.iaload) 1 1184 := ⟨(show decode code 1183 = _ from by decide +kernel), rfl⟩
theorem dL_law_1184 {nm : String} : DI (mLn nm) 1184 (.invokevirtual 148) 3 1187 := ⟨(show decode code 1184 = _ from by decide +kernel), rfl⟩
theorem dL_law_1187 {nm : String} : DLa (mLn nm) 1187 2 1188 := Or.inl ⟨2, (show decode code 1187 = _ from by decide +kernel), rfl, rfl⟩
theorem dL_law_1188 {nm : String} : DLa (mLn nm) 1188 0 1189 := Or.inl ⟨0, (show decode code 1188 = _ from by decide +kernel), rfl, rfl⟩
theorem dL_law_1189 {nm : String} : DLi (mLn nm) 1189 3 1190 := Or.inl ⟨3, (show decode code 1189 = _ from by decide +kernel), rfl, rfl⟩
theorem dL_law_1190 {nm : String} : DC (mLn nm) 1190 1 1191 := Or.inl ⟨1, (show decode code 1190 = _ from by decide +kernel), by decide, rfl⟩
theorem dL_law_1191 {nm : String} : DI (mLn nm) 1191 (.iadd) 1 1192 := ⟨(show decode code 1191 = _ from by decide +kernel), rfl⟩
theorem dL_law_1192 {nm : String} : DI (mLn nm) 1192 (.iaload) 1 1193 := ⟨(show decode code 1192 = _ from by decide +kernel), rfl⟩
theorem dL_law_1193 {nm : String} : DLa (mLn nm) 1193 0 1194 := Or.inl ⟨0, (show decode code 1193 = _ from by decide +kernel), rfl, rfl⟩
theorem dL_law_1194 {nm : String} : DLi (mLn nm) 1194 3 1195 := Or.inl ⟨3, (show decode code 1194 = _ from by decide +kernel), rfl, rfl⟩
theorem dL_law_1195 {nm : String} : DC (mLn nm) 1195 2 1196 := Or.inl ⟨2, (show decode code 1195 = _ from by decide +kernel), by decide, rfl⟩
theorem dL_law_1196 {nm : String} : DI (mLn nm) 1196 (.iadd) 1 1197 := ⟨(show decode code 1196 = _ from by decide +kernel), rfl⟩
theorem dL_law_1197 {nm : String} : DI (mLn nm) 1197 (.iaload) 1 1198 := ⟨(show decode code 1197 = _ from by decide +kernel), rfl⟩
theorem dL_law_1198 {nm : String} : DI (mLn nm) 1198 (.invokevirtual 151) 3 1201 := ⟨(show decode code 1198 = _ from by decide +kernel), rfl⟩
theorem dL_law_1201 {nm : String} : DB (mLn nm) 1201 (.if_icmp .eq (274)) (274) 1204 1475 := ⟨(show decode code 1201 = _ from by decide +kernel), rfl, by decide⟩
theorem dL_law_1204 {nm : String} : DC (mLn nm) 1204 0 1205 := Or.inl ⟨0, (show decode code 1204 = _ from by decide +kernel), by decide, rfl⟩
theorem dL_law_1205 {nm : String} : DRz (mLn nm) 1205 := ⟨(show decode code 1205 = _ from by decide +kernel), rfl⟩
theorem dL_law_1206 {nm : String} : DLa (mLn nm) 1206 1 1207 := Or.inl ⟨1, (show decode code 1206 = _ from by decide +kernel), rfl, rfl⟩
theorem dL_law_1207 {nm : String} : DLa (mLn nm) 1207 0 1208 := Or.inl ⟨0, (show decode code 1207 = _ from by decide +kernel), rfl, rfl⟩
theorem dL_law_1208 {nm : String} : DLi (mLn nm) 1208 3 1209 := Or.inl ⟨3, (show decode code 1208 = _ from by decide +kernel), rfl, rfl⟩
theorem dL_law_1209 {nm : String} : DC (mLn nm) 1209 1 1210 := Or.inl ⟨1, (show decode code 1209 = _ from by decide +kernel), by decide, rfl⟩
theorem dL_law_1210 {nm : String} : DI (mLn nm) 1210 (.iadd) 1 1211 := ⟨(show decode code 1210 = _ from by decide +kernel), rfl⟩
theorem dL_law_1211 {nm : String} : DI (mLn nm) 1211 (.iaload) 1 1212 := ⟨(show decode code 1211 = _ from by decide +kernel), rfl⟩
theorem dL_law_1212 {nm : String} : DLa (mLn nm) 1212 0 1213 := Or.inl ⟨0, (show decode code 1212 = _ from by decide +kernel), rfl, rfl⟩
theorem dL_law_1213 {nm : String} : DLi (mLn nm) 1213 3 1214 := Or.inl ⟨3, (show decode code 1213 = _ from by decide +kernel), rfl, rfl⟩
theorem dL_law_1214 {nm : String} : DC (mLn nm) 1214 2 1215 := Or.inl ⟨2, (show decode code 1214 = _ from by decide +kernel), by decide, rfl⟩
theorem dL_law_1215 {nm : String} : DI (mLn nm) 1215 (.iadd) 1 1216 := ⟨(show decode code 1215 = _ from by decide +kernel), rfl⟩
theorem dL_law_1216 {nm : String} : DI (mLn nm) 1216 (.iaload) 1 1217 := ⟨(show decode code 1216 = _ from by decide +kernel), rfl⟩
theorem dL_law_1217 {nm : String} : DLa (mLn nm) 1217 0 1218 := Or.inl ⟨0, (show decode code 1217 = _ from by decide +kernel), rfl, rfl⟩
theorem dL_law_1218 {nm : String} : DLi (mLn nm) 1218 3 1219 := Or.inl ⟨3, (show decode code 1218 = _ from by decide +kernel), rfl, rfl⟩
theorem dL_law_1219 {nm : String} : DC (mLn nm) 1219 3 1220 := Or.inl ⟨3, (show decode code 1219 = _ from by decide +kernel), by decide, rfl⟩
theorem dL_law_1220 {nm : String} : DI (mLn nm) 1220 (.iadd) 1 1221 := ⟨(show decode code 1220 = _ from by decide +kernel), rfl⟩
theorem dL_law_1221 {nm : String} : DI (mLn nm) 1221 (.iaload) 1 1222 := ⟨(show decode code 1221 = _ from by decide +kernel), rfl⟩
theorem dL_law_1222 {nm : String} : DI (mLn nm) 1222 (.invokevirtual 152) 3 1225 := ⟨(show decode code 1222 = _ from by decide +kernel), rfl⟩
theorem dL_law_1225 {nm : String} : DLa (mLn nm) 1225 2 1226 := Or.inl ⟨2, (show decode code 1225 = _ from by decide +kernel), rfl, rfl⟩
theorem dL_law_1226 {nm : String} : DLa (mLn nm) 1226 0 1227 := Or.inl ⟨0, (show decode code 1226 = _ from by decide +kernel), rfl, rfl⟩
theorem dL_law_1227 {nm : String} : DLi (mLn nm) 1227 3 1228 := Or.inl ⟨3, (show decode code 1227 = _ from by decide +kernel), rfl, rfl⟩
theorem dL_law_1228 {nm : String} : DC (mLn nm) 1228 1 1229 := Or.inl ⟨1, (show decode code 1228 = _ from by decide +kernel), by decide, rfl⟩
theorem dL_law_1229 {nm : String} : DI (mLn nm) 1229 (.iadd) 1 1230 := ⟨(show decode code 1229 = _ from by decide +kernel), rfl⟩
theorem dL_law_1230 {nm : String} : DI (mLn nm) 1230 (.iaload) 1 1231 := ⟨(show decode code 1230 = _ from by decide +kernel), rfl⟩
theorem dL_law_1231 {nm : String} : DLa (mLn nm) 1231 0 1232 := Or.inl ⟨0, (show decode code 1231 = _ from by decide +kernel), rfl, rfl⟩
theorem dL_law_1232 {nm : String} : DLi (mLn nm) 1232 3 1233 := Or.inl ⟨3, (show decode code 1232 = _ from by decide +kernel), rfl, rfl⟩
theorem dL_law_1233 {nm : String} : DC (mLn nm) 1233 2 1234 := Or.inl ⟨2, (show decode code 1233 = _ from by decide +kernel), by decide, rfl⟩
theorem dL_law_1234 {nm : String} : DI (mLn nm) 1234 (.iadd) 1 1235 := ⟨(show decode code 1234 = _ from by decide +kernel), rfl⟩
theorem dL_law_1235 {nm : String} : DI (mLn nm) 1235 (.iaload) 1 1236 := ⟨(show decode code 1235 = _ from by decide +kernel), rfl⟩
theorem dL_law_1236 {nm : String} : DLa (mLn nm) 1236 0 1237 := Or.inl ⟨0, (show decode code 1236 = _ from by decide +kernel), rfl, rfl⟩
theorem dL_law_1237 {nm : String} : DLi (mLn nm) 1237 3 1238 := Or.inl ⟨3, (show decode code 1237 = _ from by decide +kernel), rfl, rfl⟩
theorem dL_law_1238 {nm : String} : DC (mLn nm) 1238 3 1239 := Or.inl ⟨3, (show decode code 1238 = _ from by decide +kernel), by decide, rfl⟩
theorem dL_law_1239 {nm : String} : DI (mLn nm) 1239 (.iadd) 1 1240 := ⟨(show decode code 1239 = _ from by decide +kernel), rfl⟩
theorem dL_law_1240 {nm : String} : DI (mLn nm) 1240 (.iaload) 1 1241 := ⟨(show decode code 1240 = _ from by decide +kernel), rfl⟩
theorem dL_law_1241 {nm : String} : DI (mLn nm) 1241 (.invokevirtual 155) 3 1244 := ⟨(show decode code 1241 = _ from by decide +kernel), rfl⟩
theorem dL_law_1244 {nm : String} : DB (mLn nm) 1244 (.if_icmp .eq (231)) (231) 1247 1475 := ⟨(show decode code 1244 = _ from by decide +kernel), rfl, by decide⟩
theorem dL_law_1247 {nm : String} : DC (mLn nm) 1247 0 1248 := Or.inl ⟨0, (show decode code 1247 = _ from by decide +kernel), by decide, rfl⟩
theorem dL_law_1248 {nm : String} : DRz (mLn nm) 1248 := ⟨(show decode code 1248 = _ from by decide +kernel), rfl⟩
theorem dL_law_1249 {nm : String} : DLa (mLn nm) 1249 1 1250 := Or.inl ⟨1, (show decode code 1249 = _ from by decide +kernel), rfl, rfl⟩
theorem dL_law_1250 {nm : String} : DLa (mLn nm) 1250 0 1251 := Or.inl ⟨0, (show decode code 1250 = _ from by decide +kernel), rfl, rfl⟩
theorem dL_law_1251 {nm : String} : DLi (mLn nm) 1251 3 1252 := Or.inl ⟨3, (show decode code 1251 = _ from by decide +kernel), rfl, rfl⟩
theorem dL_law_1252 {nm : String} : DC (mLn nm) 1252 1 1253 := Or.inl ⟨1, (show decode code 1252 = _ from by decide +kernel), by decide, rfl⟩
theorem dL_law_1253 {nm : String} : DI (mLn nm) 1253 (.iadd) 1 1254 := ⟨(show decode code 1253 = _ from by decide +kernel), rfl⟩
theorem dL_law_1254 {nm : String} : DI (mLn nm) 1254 (.iaload) 1 1255 := ⟨(show decode code 1254 = _ from by decide +kernel), rfl⟩
theorem dL_law_1255 {nm : String} : DLa (mLn nm) 1255 0 1256 := Or.inl ⟨0, (show decode code 1255 = _ from by decide +kernel), rfl, rfl⟩
theorem dL_law_1256 {nm : String} : DLi (mLn nm) 1256 3 1257 := Or.inl ⟨3, (show decode code 1256 = _ from by decide +kernel), rfl, rfl⟩
theorem dL_law_1257 {nm : String} : DC (mLn nm) 1257 2 1258 := Or.inl ⟨2, (show decode code 1257 = _ from by decide +kernel), by decide, rfl⟩
theorem dL_law_1258 {nm : String} : DI (mLn nm) 1258 (.iadd) 1 1259 := ⟨(show decode code 1258 = _ from by decide +kernel), rfl⟩
theorem dL_law_1259 {nm : String} : DI (mLn nm) 1259 (.iaload) 1 1260 := ⟨(show decode code 1259 = _ from by decide +kernel), rfl⟩
theorem dL_law_1260 {nm : String} : DLa (mLn nm) 1260 0 1261 := Or.inl ⟨0, (show decode code 1260 = _ from by decide +kernel), rfl, rfl⟩
theorem dL_law_1261 {nm : String} : DLi (mLn nm) 1261 3 1262 := Or.inl ⟨3, (show decode code 1261 = _ from by decide +kernel), rfl, rfl⟩
theorem dL_law_1262 {nm : String} : DC (mLn nm) 1262 3 1263 := Or.inl ⟨3, (show decode code 1262 = _ from by decide +kernel), by decide, rfl⟩
theorem dL_law_1263 {nm : String} : DI (mLn nm) 1263 (.iadd) 1 1264 := ⟨(show decode code 1263 = _ from by decide +kernel), rfl⟩
theorem dL_law_1264 {nm : String} : DI (mLn nm) 1264 (.iaload) 1 1265 := ⟨(show decode code 1264 = _ from by decide +kernel), rfl⟩
theorem dL_law_1265 {nm : String} : DI (mLn nm) 1265 (.i2l) 1 1266 := ⟨(show decode code 1265 = _ from by decide +kernel), rfl⟩
theorem dL_law_1266 {nm : String} : DC (mLn nm) 1266 32 1268 := Or.inr (Or.inl ⟨32, (show decode code 1266 = _ from by decide +kernel), by decide, rfl⟩)
theorem dL_law_1268 {nm : String} : DI (mLn nm) 1268 (.lshl) 1 1269 := ⟨(show decode code 1268 = _ from by decide +kernel), rfl⟩
theorem dL_law_1269 {nm : String} : DLa (mLn nm) 1269 0 1270 := Or.inl ⟨0, (show decode code 1269 = _ from by decide +kernel), rfl, rfl⟩
theorem dL_law_1270 {nm : String} : DLi (mLn nm) 1270 3 1271 := Or.inl ⟨3, (show decode code 1270 = _ from by decide +kernel), rfl, rfl⟩
theorem dL_law_1271 {nm : String} : DC (mLn nm) 1271 4 1272 := Or.inl ⟨4, (show decode code 1271 = _ from by decide +kernel), by decide, rfl⟩
theorem dL_law_1272 {nm : String} : DI (mLn nm) 1272 (.iadd) 1 1273 := ⟨(show decode code 1272 = _ from by decide +kernel), rfl⟩
theorem dL_law_1273 {nm : String} : DI (mLn nm) 1273 (.iaload) 1 1274 := ⟨(show decode code 1273 = _ from by decide +kernel), rfl⟩
theorem dL_law_1274 {nm : String} : DI (mLn nm) 1274 (.i2l) 1 1275 := ⟨(show decode code 1274 = _ from by decide +kernel), rfl⟩
theorem dL_law_1275 {nm : String} : DCL (mLn nm) 1275 4294967295 1278 := Or.inr ⟨156, (show decode code 1275 = _ from by decide +kernel), (tq7 13 rfl rfl), rfl⟩
theorem dL_law_1278 {nm : String} : DI (mLn nm) 1278 (.land) 1 1279 := ⟨(show decode code 1278 = _ from by decide +kernel), rfl⟩
theorem dL_law_1279 {nm : String} : DI (mLn nm) 1279 (.lor) 1 1280 := ⟨(show decode code 1279 = _ from by decide +kernel), rfl⟩
theorem dL_law_1280 {nm : String} : DI (mLn nm) 1280 (.invokevirtual 158) 3 1283 := ⟨(show decode code 1280 = _ from by decide +kernel), rfl⟩
theorem dL_law_1283 {nm : String} : DLa (mLn nm) 1283 2 1284 := Or.inl ⟨2, (show decode code 1283 = _ from by decide +kernel), rfl, rfl⟩
theorem dL_law_1284 {nm : String} : DLa (mLn nm) 1284 0 1285 := Or.inl ⟨0, (show decode code 1284 = _ from by decide +kernel), rfl, rfl⟩
theorem dL_law_1285 {nm : String} : DLi (mLn nm) 1285 3 1286 := Or.inl ⟨3, (show decode code 1285 = _ from by decide +kernel), rfl, rfl⟩
theorem dL_law_1286 {nm : String} : DC (mLn nm) 1286 1 1287 := Or.inl ⟨1, (show decode code 1286 = _ from by decide +kernel), by decide, rfl⟩
theorem dL_law_1287 {nm : String} : DI (mLn nm) 1287 (.iadd) 1 1288 := ⟨(show decode code 1287 = _ from by decide +kernel), rfl⟩
theorem dL_law_1288 {nm : String} : DI (mLn nm) 1288 (.iaload) 1 1289 := ⟨(show decode code 1288 = _ from by decide +kernel), rfl⟩
theorem dL_law_1289 {nm : String} : DLa (mLn nm) 1289 0 1290 := Or.inl ⟨0, (show decode code 1289 = _ from by decide +kernel), rfl, rfl⟩
theorem dL_law_1290 {nm : String} : DLi (mLn nm) 1290 3 1291 := Or.inl ⟨3, (show decode code 1290 = _ from by decide +kernel), rfl, rfl⟩
theorem dL_law_1291 {nm : String} : DC (mLn nm) 1291 2 1292 := Or.inl ⟨2, (show decode code 1291 = _ from by decide +kernel), by decide, rfl⟩
theorem dL_law_1292 {nm : String} : DI (mLn nm) 1292 (.iadd) 1 1293 := ⟨(show decode code 1292 = _ from by decide +kernel), rfl⟩
theorem dL_law_1293 {nm : String} : DI (mLn nm) 1293 (.iaload) 1 1294 := ⟨(show decode code 1293 = _ from by decide +kernel), rfl⟩
theorem dL_law_1294 {nm : String} : DLa (mLn nm) 1294 0 1295 := Or.inl ⟨0, (show decode code 1294 = _ from by decide +kernel), rfl, rfl⟩
theorem dL_law_1295 {nm : String} : DLi (mLn nm) 1295 3 1296 := Or.inl ⟨3, (show decode code 1295 = _ from by decide +kernel), rfl, rfl⟩
theorem dL_law_1296 {nm : String} : DC (mLn nm) 1296 3 1297 := Or.inl ⟨3, (show decode code 1296 = _ from by decide +kernel), by decide, rfl⟩
theorem dL_law_1297 {nm : String} : DI (mLn nm) 1297 (.iadd) 1 1298 := ⟨(show decode code 1297 = _ from by decide +kernel), rfl⟩
theorem dL_law_1298 {nm : String} : DI (mLn nm) 1298 (.iaload) 1 1299 := ⟨(show decode code 1298 = _ from by decide +kernel), rfl⟩
theorem dL_law_1299 {nm : String} : DI (mLn nm) 1299 (.i2l) 1 1300 := ⟨(show decode code 1299 = _ from by decide +kernel), rfl⟩
theorem dL_law_1300 {nm : String} : DC (mLn nm) 1300 32 1302 := Or.inr (Or.inl ⟨32, (show decode code 1300 = _ from by decide +kernel), by decide, rfl⟩)
theorem dL_law_1302 {nm : String} : DI (mLn nm) 1302 (.lshl) 1 1303 := ⟨(show decode code 1302 = _ from by decide +kernel), rfl⟩
theorem dL_law_1303 {nm : String} : DLa (mLn nm) 1303 0 1304 := Or.inl ⟨0, (show decode code 1303 = _ from by decide +kernel), rfl, rfl⟩
theorem dL_law_1304 {nm : String} : DLi (mLn nm) 1304 3 1305 := Or.inl ⟨3, (show decode code 1304 = _ from by decide +kernel), rfl, rfl⟩
theorem dL_law_1305 {nm : String} : DC (mLn nm) 1305 4 1306 := Or.inl ⟨4, (show decode code 1305 = _ from by decide +kernel), by decide, rfl⟩
theorem dL_law_1306 {nm : String} : DI (mLn nm) 1306 (.iadd) 1 1307 := ⟨(show decode code 1306 = _ from by decide +kernel), rfl⟩
theorem dL_law_1307 {nm : String} : DI (mLn nm) 1307 (.iaload) 1 1308 := ⟨(show decode code 1307 = _ from by decide +kernel), rfl⟩
theorem dL_law_1308 {nm : String} : DI (mLn nm) 1308 (.i2l) 1 1309 := ⟨(show decode code 1308 = _ from by decide +kernel), rfl⟩
theorem dL_law_1309 {nm : String} : DCL (mLn nm) 1309 4294967295 1312 := Or.inr ⟨156, (show decode code 1309 = _ from by decide +kernel), (tq7 13 rfl rfl), rfl⟩
theorem dL_law_1312 {nm : String} : DI (mLn nm) 1312 (.land) 1 1313 := ⟨(show decode code 1312 = _ from by decide +kernel), rfl⟩
theorem dL_law_1313 {nm : String} : DI (mLn nm) 1313 (.lor) 1 1314 := ⟨(show decode code 1313 = _ from by decide +kernel), rfl⟩
theorem dL_law_1314 {nm : String} : DI (mLn nm) 1314 (.invokevirtual 162) 3 1317 := ⟨(show decode code 1314 = _ from by decide +kernel), rfl⟩
theorem dL_law_1317 {nm : String} : DB (mLn nm) 1317 (.if_icmp .eq (158)) (158) 1320 1475 := ⟨(show decode code 1317 = _ from by decide +kernel), rfl, by decide⟩
theorem dL_law_1320 {nm : String} : DC (mLn nm) 1320 0 1321 := Or.inl ⟨0, (show decode code 1320 = _ from by decide +kernel), by decide, rfl⟩
theorem dL_law_1321 {nm : String} : DRz (mLn nm) 1321 := ⟨(show decode code 1321 = _ from by decide +kernel), rfl⟩
theorem dL_law_1322 {nm : String} : DLa (mLn nm) 1322 1 1323 := Or.inl ⟨1, (show decode code 1322 = _ from by decide +kernel), rfl, rfl⟩
theorem dL_law_1323 {nm : String} : DLa (mLn nm) 1323 0 1324 := Or.inl ⟨0, (show decode code 1323 = _ from by decide +kernel), rfl, rfl⟩
theorem dL_law_1324 {nm : String} : DLi (mLn nm) 1324 3 1325 := Or.inl ⟨3, (show decode code 1324 = _ from by decide +kernel), rfl, rfl⟩
theorem dL_law_1325 {nm : String} : DC (mLn nm) 1325 1 1326 := Or.inl ⟨1, (show decode code 1325 = _ from by decide +kernel), by decide, rfl⟩
theorem dL_law_1326 {nm : String} : DI (mLn nm) 1326 (.iadd) 1 1327 := ⟨(show decode code 1326 = _ from by decide +kernel), rfl⟩
theorem dL_law_1327 {nm : String} : DI (mLn nm) 1327 (.iaload) 1 1328 := ⟨(show decode code 1327 = _ from by decide +kernel), rfl⟩
theorem dL_law_1328 {nm : String} : DLa (mLn nm) 1328 0 1329 := Or.inl ⟨0, (show decode code 1328 = _ from by decide +kernel), rfl, rfl⟩
theorem dL_law_1329 {nm : String} : DLi (mLn nm) 1329 3 1330 := Or.inl ⟨3, (show decode code 1329 = _ from by decide +kernel), rfl, rfl⟩
theorem dL_law_1330 {nm : String} : DC (mLn nm) 1330 2 1331 := Or.inl ⟨2, (show decode code 1330 = _ from by decide +kernel), by decide, rfl⟩
theorem dL_law_1331 {nm : String} : DI (mLn nm) 1331 (.iadd) 1 1332 := ⟨(show decode code 1331 = _ from by decide +kernel), rfl⟩
theorem dL_law_1332 {nm : String} : DI (mLn nm) 1332 (.iaload) 1 1333 := ⟨(show decode code 1332 = _ from by decide +kernel), rfl⟩
theorem dL_law_1333 {nm : String} : DI (mLn nm) 1333 (.invokevirtual 163) 3 1336 := ⟨(show decode code 1333 = _ from by decide +kernel), rfl⟩
theorem dL_law_1336 {nm : String} : DLa (mLn nm) 1336 2 1337 := Or.inl ⟨2, (show decode code 1336 = _ from by decide +kernel), rfl, rfl⟩
theorem dL_law_1337 {nm : String} : DLa (mLn nm) 1337 0 1338 := Or.inl ⟨0, (show decode code 1337 = _ from by decide +kernel), rfl, rfl⟩
theorem dL_law_1338 {nm : String} : DLi (mLn nm) 1338 3 1339 := Or.inl ⟨3, (show decode code 1338 = _ from by decide +kernel), rfl, rfl⟩
theorem dL_law_1339 {nm : String} : DC (mLn nm) 1339 1 1340 := Or.inl ⟨1, (show decode code 1339 = _ from by decide +kernel), by decide, rfl⟩
theorem dL_law_1340 {nm : String} : DI (mLn nm) 1340 (.iadd) 1 1341 := ⟨(show decode code 1340 = _ from by decide +kernel), rfl⟩
theorem dL_law_1341 {nm : String} : DI (mLn nm) 1341 (.iaload) 1 1342 := ⟨(show decode code 1341 = _ from by decide +kernel), rfl⟩
theorem dL_law_1342 {nm : String} : DLa (mLn nm) 1342 0 1343 := Or.inl ⟨0, (show decode code 1342 = _ from by decide +kernel), rfl, rfl⟩
theorem dL_law_1343 {nm : String} : DLi (mLn nm) 1343 3 1344 := Or.inl ⟨3, (show decode code 1343 = _ from by decide +kernel), rfl, rfl⟩
theorem dL_law_1344 {nm : String} : DC (mLn nm) 1344 2 1345 := Or.inl ⟨2, (show decode code 1344 = _ from by decide +kernel), by decide, rfl⟩
theorem dL_law_1345 {nm : String} : DI (mLn nm) 1345 (.iadd) 1 1346 := ⟨(show decode code 1345 = _ from by decide +kernel), rfl⟩
theorem dL_law_1346 {nm : String} : DI (mLn nm) 1346 (.iaload) 1 1347 := ⟨(show decode code 1346 = _ from by decide +kernel), rfl⟩
theorem dL_law_1347 {nm : String} : DI (mLn nm) 1347 (.invokevirtual 166) 3 1350 := ⟨(show decode code 1347 = _ from by decide +kernel), rfl⟩
theorem dL_law_1350 {nm : String} : DI (mLn nm) 1350 (.lcmp) 1 1351 := ⟨(show decode code 1350 = _ from by decide +kernel), rfl⟩
theorem dL_law_1351 {nm : String} : DB (mLn nm) 1351 (.ifCond .eq (124)) (124) 1354 1475 := ⟨(show decode code 1351 = _ from by decide +kernel), rfl, by decide⟩
theorem dL_law_1354 {nm : String} : DC (mLn nm) 1354 0 1355 := Or.inl ⟨0, (show decode code 1354 = _ from by decide +kernel), by decide, rfl⟩
theorem dL_law_1355 {nm : String} : DRz (mLn nm) 1355 := ⟨(show decode code 1355 = _ from by decide +kernel), rfl⟩
theorem dL_law_1356 {nm : String} : DLa (mLn nm) 1356 1 1357 := Or.inl ⟨1, (show decode code 1356 = _ from by decide +kernel), rfl, rfl⟩
theorem dL_law_1357 {nm : String} : DLa (mLn nm) 1357 0 1358 := Or.inl ⟨0, (show decode code 1357 = _ from by decide +kernel), rfl, rfl⟩
theorem dL_law_1358 {nm : String} : DLi (mLn nm) 1358 3 1359 := Or.inl ⟨3, (show decode code 1358 = _ from by decide +kernel), rfl, rfl⟩
theorem dL_law_1359 {nm : String} : DC (mLn nm) 1359 1 1360 := Or.inl ⟨1, (show decode code 1359 = _ from by decide +kernel), by decide, rfl⟩
theorem dL_law_1360 {nm : String} : DI (mLn nm) 1360 (.iadd) 1 1361 := ⟨(show decode code 1360 = _ from by decide +kernel), rfl⟩
theorem dL_law_1361 {nm : String} : DI (mLn nm) 1361 (.iaload) 1 1362 := ⟨(show decode code 1361 = _ from by decide +kernel), rfl⟩
theorem dL_law_1362 {nm : String} : DLa (mLn nm) 1362 0 1363 := Or.inl ⟨0, (show decode code 1362 = _ from by decide +kernel), rfl, rfl⟩
theorem dL_law_1363 {nm : String} : DLi (mLn nm) 1363 3 1364 := Or.inl ⟨3, (show decode code 1363 = _ from by decide +kernel), rfl, rfl⟩
theorem dL_law_1364 {nm : String} : DC (mLn nm) 1364 2 1365 := Or.inl ⟨2, (show decode code 1364 = _ from by decide +kernel), by decide, rfl⟩
theorem dL_law_1365 {nm : String} : DI (mLn nm) 1365 (.iadd) 1 1366 := ⟨(show decode code 1365 = _ from by decide +kernel), rfl⟩
theorem dL_law_1366 {nm : String} : DI (mLn nm) 1366 (.iaload) 1 1367 := ⟨(show decode code 1366 = _ from by decide +kernel), rfl⟩
theorem dL_law_1367 {nm : String} : DLa (mLn nm) 1367 0 1368 := Or.inl ⟨0, (show decode code 1367 = _ from by decide +kernel), rfl, rfl⟩
theorem dL_law_1368 {nm : String} : DLi (mLn nm) 1368 3 1369 := Or.inl ⟨3, (show decode code 1368 = _ from by decide +kernel), rfl, rfl⟩
theorem dL_law_1369 {nm : String} : DC (mLn nm) 1369 3 1370 := Or.inl ⟨3, (show decode code 1369 = _ from by decide +kernel), by decide, rfl⟩
theorem dL_law_1370 {nm : String} : DI (mLn nm) 1370 (.iadd) 1 1371 := ⟨(show decode code 1370 = _ from by decide +kernel), rfl⟩
theorem dL_law_1371 {nm : String} : DI (mLn nm) 1371 (.iaload) 1 1372 := ⟨(show decode code 1371 = _ from by decide +kernel), rfl⟩
theorem dL_law_1372 {nm : String} : DLa (mLn nm) 1372 0 1373 := Or.inl ⟨0, (show decode code 1372 = _ from by decide +kernel), rfl, rfl⟩
theorem dL_law_1373 {nm : String} : DLi (mLn nm) 1373 3 1374 := Or.inl ⟨3, (show decode code 1373 = _ from by decide +kernel), rfl, rfl⟩
theorem dL_law_1374 {nm : String} : DC (mLn nm) 1374 4 1375 := Or.inl ⟨4, (show decode code 1374 = _ from by decide +kernel), by decide, rfl⟩
theorem dL_law_1375 {nm : String} : DI (mLn nm) 1375 (.iadd) 1 1376 := ⟨(show decode code 1375 = _ from by decide +kernel), rfl⟩
theorem dL_law_1376 {nm : String} : DI (mLn nm) 1376 (.iaload) 1 1377 := ⟨(show decode code 1376 = _ from by decide +kernel), rfl⟩
theorem dL_law_1377 {nm : String} : DLa (mLn nm) 1377 0 1378 := Or.inl ⟨0, (show decode code 1377 = _ from by decide +kernel), rfl, rfl⟩
theorem dL_law_1378 {nm : String} : DLi (mLn nm) 1378 3 1379 := Or.inl ⟨3, (show decode code 1378 = _ from by decide +kernel), rfl, rfl⟩
theorem dL_law_1379 {nm : String} : DC (mLn nm) 1379 5 1380 := Or.inl ⟨5, (show decode code 1379 = _ from by decide +kernel), by decide, rfl⟩
theorem dL_law_1380 {nm : String} : DI (mLn nm) 1380 (.iadd) 1 1381 := ⟨(show decode code 1380 = _ from by decide +kernel), rfl⟩
theorem dL_law_1381 {nm : String} : DI (mLn nm) 1381 (.iaload) 1 1382 := ⟨(show decode code 1381 = _ from by decide +kernel), rfl⟩
theorem dL_law_1382 {nm : String} : DI (mLn nm) 1382 (.invokevirtual 167) 3 1385 := ⟨(show decode code 1382 = _ from by decide +kernel), rfl⟩
theorem dL_law_1385 {nm : String} : DLa (mLn nm) 1385 2 1386 := Or.inl ⟨2, (show decode code 1385 = _ from by decide +kernel), rfl, rfl⟩
theorem dL_law_1386 {nm : String} : DLa (mLn nm) 1386 0 1387 := Or.inl ⟨0, (show decode code 1386 = _ from by decide +kernel), rfl, rfl⟩
theorem dL_law_1387 {nm : String} : DLi (mLn nm) 1387 3 1388 := Or.inl ⟨3, (show decode code 1387 = _ from by decide +kernel), rfl, rfl⟩
theorem dL_law_1388 {nm : String} : DC (mLn nm) 1388 1 1389 := Or.inl ⟨1, (show decode code 1388 = _ from by decide +kernel), by decide, rfl⟩
theorem dL_law_1389 {nm : String} : DI (mLn nm) 1389 (.iadd) 1 1390 := ⟨(show decode code 1389 = _ from by decide +kernel), rfl⟩
theorem dL_law_1390 {nm : String} : DI (mLn nm) 1390 (.iaload) 1 1391 := ⟨(show decode code 1390 = _ from by decide +kernel), rfl⟩
theorem dL_law_1391 {nm : String} : DLa (mLn nm) 1391 0 1392 := Or.inl ⟨0, (show decode code 1391 = _ from by decide +kernel), rfl, rfl⟩
theorem dL_law_1392 {nm : String} : DLi (mLn nm) 1392 3 1393 := Or.inl ⟨3, (show decode code 1392 = _ from by decide +kernel), rfl, rfl⟩
theorem dL_law_1393 {nm : String} : DC (mLn nm) 1393 2 1394 := Or.inl ⟨2, (show decode code 1393 = _ from by decide +kernel), by decide, rfl⟩
theorem dL_law_1394 {nm : String} : DI (mLn nm) 1394 (.iadd) 1 1395 := ⟨(show decode code 1394 = _ from by decide +kernel), rfl⟩
theorem dL_law_1395 {nm : String} : DI (mLn nm) 1395 (.iaload) 1 1396 := ⟨(show decode code 1395 = _ from by decide +kernel), rfl⟩
theorem dL_law_1396 {nm : String} : DLa (mLn nm) 1396 0 1397 := Or.inl ⟨0, (show decode code 1396 = _ from by decide +kernel), rfl, rfl⟩
theorem dL_law_1397 {nm : String} : DLi (mLn nm) 1397 3 1398 := Or.inl ⟨3, (show decode code 1397 = _ from by decide +kernel), rfl, rfl⟩
theorem dL_law_1398 {nm : String} : DC (mLn nm) 1398 3 1399 := Or.inl ⟨3, (show decode code 1398 = _ from by decide +kernel), by decide, rfl⟩
theorem dL_law_1399 {nm : String} : DI (mLn nm) 1399 (.iadd) 1 1400 := ⟨(show decode code 1399 = _ from by decide +kernel), rfl⟩
theorem dL_law_1400 {nm : String} : DI (mLn nm) 1400 (.iaload) 1 1401 := ⟨(show decode code 1400 = _ from by decide +kernel), rfl⟩
theorem dL_law_1401 {nm : String} : DLa (mLn nm) 1401 0 1402 := Or.inl ⟨0, (show decode code 1401 = _ from by decide +kernel), rfl, rfl⟩
theorem dL_law_1402 {nm : String} : DLi (mLn nm) 1402 3 1403 := Or.inl ⟨3, (show decode code 1402 = _ from by decide +kernel), rfl, rfl⟩
theorem dL_law_1403 {nm : String} : DC (mLn nm) 1403 4 1404 := Or.inl ⟨4, (show decode code 1403 = _ from by decide +kernel), by decide, rfl⟩
theorem dL_law_1404 {nm : String} : DI (mLn nm) 1404 (.iadd) 1 1405 := ⟨(show decode code 1404 = _ from by decide +kernel), rfl⟩
theorem dL_law_1405 {nm : String} : DI (mLn nm) 1405 (.iaload) 1 1406 := ⟨(show decode code 1405 = _ from by decide +kernel), rfl⟩
theorem dL_law_1406 {nm : String} : DLa (mLn nm) 1406 0 1407 := Or.inl ⟨0, (show decode code 1406 = _ from by decide +kernel), rfl, rfl⟩
theorem dL_law_1407 {nm : String} : DLi (mLn nm) 1407 3 1408 := Or.inl ⟨3, (show decode code 1407 = _ from by decide +kernel), rfl, rfl⟩
theorem dL_law_1408 {nm : String} : DC (mLn nm) 1408 5 1409 := Or.inl ⟨5, (show decode code 1408 = _ from by decide +kernel), by decide, rfl⟩
theorem dL_law_1409 {nm : String} : DI (mLn nm) 1409 (.iadd) 1 1410 := ⟨(show decode code 1409 = _ from by decide +kernel), rfl⟩
theorem dL_law_1410 {nm : String} : DI (mLn nm) 1410 (.iaload) 1 1411 := ⟨(show decode code 1410 = _ from by decide +kernel), rfl⟩
theorem dL_law_1411 {nm : String} : DI (mLn nm) 1411 (.invokevirtual 171) 3 1414 := ⟨(show decode code 1411 = _ from by decide +kernel), rfl⟩
theorem dL_law_1414 {nm : String} : DB (mLn nm) 1414 (.if_icmp .eq (61)) (61) 1417 1475 := ⟨(show decode code 1414 = _ from by decide +kernel), rfl, by decide⟩
theorem dL_law_1417 {nm : String} : DC (mLn nm) 1417 0 1418 := Or.inl ⟨0, (show decode code 1417 = _ from by decide +kernel), by decide, rfl⟩
theorem dL_law_1418 {nm : String} : DRz (mLn nm) 1418 := ⟨(show decode code 1418 = _ from by decide +kernel), rfl⟩
theorem dL_law_1419 {nm : String} : DLa (mLn nm) 1419 1 1420 := Or.inl ⟨1, (show decode code 1419 = _ from by decide +kernel), rfl, rfl⟩
theorem dL_law_1420 {nm : String} : DLa (mLn nm) 1420 0 1421 := Or.inl ⟨0, (show decode code 1420 = _ from by decide +kernel), rfl, rfl⟩
theorem dL_law_1421 {nm : String} : DLi (mLn nm) 1421 3 1422 := Or.inl ⟨3, (show decode code 1421 = _ from by decide +kernel), rfl, rfl⟩
theorem dL_law_1422 {nm : String} : DC (mLn nm) 1422 1 1423 := Or.inl ⟨1, (show decode code 1422 = _ from by decide +kernel), by decide, rfl⟩
theorem dL_law_1423 {nm : String} : DI (mLn nm) 1423 (.iadd) 1 1424 := ⟨(show decode code 1423 = _ from by decide +kernel), rfl⟩
theorem dL_law_1424 {nm : String} : DI (mLn nm) 1424 (.iaload) 1 1425 := ⟨(show decode code 1424 = _ from by decide +kernel), rfl⟩
theorem dL_law_1425 {nm : String} : DLa (mLn nm) 1425 0 1426 := Or.inl ⟨0, (show decode code 1425 = _ from by decide +kernel), rfl, rfl⟩
theorem dL_law_1426 {nm : String} : DLi (mLn nm) 1426 3 1427 := Or.inl ⟨3, (show decode code 1426 = _ from by decide +kernel), rfl, rfl⟩
theorem dL_law_1427 {nm : String} : DC (mLn nm) 1427 2 1428 := Or.inl ⟨2, (show decode code 1427 = _ from by decide +kernel), by decide, rfl⟩
theorem dL_law_1428 {nm : String} : DI (mLn nm) 1428 (.iadd) 1 1429 := ⟨(show decode code 1428 = _ from by decide +kernel), rfl⟩
theorem dL_law_1429 {nm : String} : DI (mLn nm) 1429 (.iaload) 1 1430 := ⟨(show decode code 1429 = _ from by decide +kernel), rfl⟩
theorem dL_law_1430 {nm : String} : DI (mLn nm) 1430 (.invokevirtual 172) 3 1433 := ⟨(show decode code 1430 = _ from by decide +kernel), rfl⟩
theorem dL_law_1433 {nm : String} : DLa (mLn nm) 1433 2 1434 := Or.inl ⟨2, (show decode code 1433 = _ from by decide +kernel), rfl, rfl⟩
theorem dL_law_1434 {nm : String} : DLa (mLn nm) 1434 0 1435 := Or.inl ⟨0, (show decode code 1434 = _ from by decide +kernel), rfl, rfl⟩
theorem dL_law_1435 {nm : String} : DLi (mLn nm) 1435 3 1436 := Or.inl ⟨3, (show decode code 1435 = _ from by decide +kernel), rfl, rfl⟩
theorem dL_law_1436 {nm : String} : DC (mLn nm) 1436 1 1437 := Or.inl ⟨1, (show decode code 1436 = _ from by decide +kernel), by decide, rfl⟩
theorem dL_law_1437 {nm : String} : DI (mLn nm) 1437 (.iadd) 1 1438 := ⟨(show decode code 1437 = _ from by decide +kernel), rfl⟩
theorem dL_law_1438 {nm : String} : DI (mLn nm) 1438 (.iaload) 1 1439 := ⟨(show decode code 1438 = _ from by decide +kernel), rfl⟩
theorem dL_law_1439 {nm : String} : DLa (mLn nm) 1439 0 1440 := Or.inl ⟨0, (show decode code 1439 = _ from by decide +kernel), rfl, rfl⟩
theorem dL_law_1440 {nm : String} : DLi (mLn nm) 1440 3 1441 := Or.inl ⟨3, (show decode code 1440 = _ from by decide +kernel), rfl, rfl⟩
theorem dL_law_1441 {nm : String} : DC (mLn nm) 1441 2 1442 := Or.inl ⟨2, (show decode code 1441 = _ from by decide +kernel), by decide, rfl⟩
theorem dL_law_1442 {nm : String} : DI (mLn nm) 1442 (.iadd) 1 1443 := ⟨(show decode code 1442 = _ from by decide +kernel), rfl⟩
theorem dL_law_1443 {nm : String} : DI (mLn nm) 1443 (.iaload) 1 1444 := ⟨(show decode code 1443 = _ from by decide +kernel), rfl⟩
theorem dL_law_1444 {nm : String} : DI (mLn nm) 1444 (.invokevirtual 175) 3 1447 := ⟨(show decode code 1444 = _ from by decide +kernel), rfl⟩
theorem dL_law_1447 {nm : String} : DB (mLn nm) 1447 (.if_icmp .eq (28)) (28) 1450 1475 := ⟨(show decode code 1447 = _ from by decide +kernel), rfl, by decide⟩
theorem dL_law_1450 {nm : String} : DC (mLn nm) 1450 0 1451 := Or.inl ⟨0, (show decode code 1450 = _ from by decide +kernel), by decide, rfl⟩
theorem dL_law_1451 {nm : String} : DRz (mLn nm) 1451 := ⟨(show decode code 1451 = _ from by decide +kernel), rfl⟩
theorem dL_law_1452 {nm : String} : DLa (mLn nm) 1452 1 1453 := Or.inl ⟨1, (show decode code 1452 = _ from by decide +kernel), rfl, rfl⟩
theorem dL_law_1453 {nm : String} : DLa (mLn nm) 1453 0 1454 := Or.inl ⟨0, (show decode code 1453 = _ from by decide +kernel), rfl, rfl⟩
theorem dL_law_1454 {nm : String} : DLi (mLn nm) 1454 3 1455 := Or.inl ⟨3, (show decode code 1454 = _ from by decide +kernel), rfl, rfl⟩
theorem dL_law_1455 {nm : String} : DC (mLn nm) 1455 1 1456 := Or.inl ⟨1, (show decode code 1455 = _ from by decide +kernel), by decide, rfl⟩
theorem dL_law_1456 {nm : String} : DI (mLn nm) 1456 (.iadd) 1 1457 := ⟨(show decode code 1456 = _ from by decide +kernel), rfl⟩
theorem dL_law_1457 {nm : String} : DI (mLn nm) 1457 (.iaload) 1 1458 := ⟨(show decode code 1457 = _ from by decide +kernel), rfl⟩
theorem dL_law_1458 {nm : String} : DI (mLn nm) 1458 (.invokevirtual 176) 3 1461 := ⟨(show decode code 1458 = _ from by decide +kernel), rfl⟩
theorem dL_law_1461 {nm : String} : DLa (mLn nm) 1461 2 1462 := Or.inl ⟨2, (show decode code 1461 = _ from by decide +kernel), rfl, rfl⟩
theorem dL_law_1462 {nm : String} : DLa (mLn nm) 1462 0 1463 := Or.inl ⟨0, (show decode code 1462 = _ from by decide +kernel), rfl, rfl⟩
theorem dL_law_1463 {nm : String} : DLi (mLn nm) 1463 3 1464 := Or.inl ⟨3, (show decode code 1463 = _ from by decide +kernel), rfl, rfl⟩
theorem dL_law_1464 {nm : String} : DC (mLn nm) 1464 1 1465 := Or.inl ⟨1, (show decode code 1464 = _ from by decide +kernel), by decide, rfl⟩
theorem dL_law_1465 {nm : String} : DI (mLn nm) 1465 (.iadd) 1 1466 := ⟨(show decode code 1465 = _ from by decide +kernel), rfl⟩
theorem dL_law_1466 {nm : String} : DI (mLn nm) 1466 (.iaload) 1 1467 := ⟨(show decode code 1466 = _ from by decide +kernel), rfl⟩
theorem dL_law_1467 {nm : String} : DI (mLn nm) 1467 (.invokevirtual 179) 3 1470 := ⟨(show decode code 1467 = _ from by decide +kernel), rfl⟩
theorem dL_law_1470 {nm : String} : DB (mLn nm) 1470 (.if_icmp .eq (5)) (5) 1473 1475 := ⟨(show decode code 1470 = _ from by decide +kernel), rfl, by decide⟩
theorem dL_law_1473 {nm : String} : DC (mLn nm) 1473 0 1474 := Or.inl ⟨0, (show decode code 1473 = _ from by decide +kernel), by decide, rfl⟩
theorem dL_law_1474 {nm : String} : DRz (mLn nm) 1474 := ⟨(show decode code 1474 = _ from by decide +kernel), rfl⟩
theorem dL_law_1475 {nm : String} : DIN (mLn nm) 1475 3 6 1478 := ⟨Nat.le_of_ble_eq_true rfl, 6, (show decode code 1475 = _ from by decide +kernel), by decide, rfl⟩
theorem dL_law_1478 {nm : String} : DB (mLn nm) 1478 (.goto (-1460)) (-1460) 1481 18 := ⟨(show decode code 1478 = _ from by decide +kernel), rfl, by decide⟩
theorem dL_law_1481 {nm : String} : DC (mLn nm) 1481 1 1482 := Or.inl ⟨1, (show decode code 1481 = _ from by decide +kernel), by decide, rfl⟩
theorem dL_law_1482 {nm : String} : DRz (mLn nm) 1482 := ⟨(show decode code 1482 = _ from by decide +kernel), rfl⟩
