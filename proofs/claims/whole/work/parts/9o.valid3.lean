set_option maxRecDepth 100000 in
theorem kv_230 : ab_vt km_230 kt_230 = true := by decide +kernel
set_option maxRecDepth 100000 in
theorem kw_230 : ab_vm km_230 1417 103 = true := by decide +kernel
theorem kk_230 : ab_mok ab_pg 230 km_230 := ab_vm_ok (t := kt_230) rfl kw_230 kv_230 trivial
set_option maxRecDepth 100000 in
theorem kv_231 : ab_vt km_231 kt_231 = true := by decide +kernel
set_option maxRecDepth 100000 in
theorem kw_231 : ab_vm km_231 591 109 = true := by decide +kernel
theorem kk_231 : ab_mok ab_pg 231 km_231 := ab_vm_ok (t := kt_231) rfl kw_231 kv_231 trivial
set_option maxRecDepth 100000 in
theorem kv_232 : ab_vt km_232 kt_232 = true := by decide +kernel
set_option maxRecDepth 100000 in
theorem kw_232 : ab_vm km_232 1445 103 = true := by decide +kernel
theorem kk_232 : ab_mok ab_pg 232 km_232 := ab_vm_ok (t := kt_232) rfl kw_232 kv_232 trivial
set_option maxRecDepth 100000 in
theorem kv_233 : ab_vt km_233 kt_233 = true := by decide +kernel
set_option maxRecDepth 100000 in
theorem kw_233 : ab_vm km_233 609 105 = true := by decide +kernel
theorem kk_233 : ab_mok ab_pg 233 km_233 := ab_vm_ok (t := kt_233) rfl kw_233 kv_233 trivial
set_option maxRecDepth 100000 in
theorem kv_234 : ab_vt km_234 kt_234 = true := by decide +kernel
set_option maxRecDepth 100000 in
theorem kw_234 : ab_vm km_234 1451 109 = true := by decide +kernel
theorem kk_234 : ab_mok ab_pg 234 km_234 := ab_vm_ok (t := kt_234) rfl kw_234 kv_234 trivial
set_option maxRecDepth 100000 in
theorem kv_235 : ab_vt km_235 kt_235 = true := by decide +kernel
set_option maxRecDepth 100000 in
theorem kw_235 : ab_vm km_235 600 109 = true := by decide +kernel
theorem kk_235 : ab_mok ab_pg 235 km_235 := ab_vm_ok (t := kt_235) rfl kw_235 kv_235 trivial
set_option maxRecDepth 100000 in
theorem kv_236 : ab_vt km_236 kt_236 = true := by decide +kernel
set_option maxRecDepth 100000 in
theorem kw_236 : ab_vm km_236 1470 109 = true := by decide +kernel
theorem kk_236 : ab_mok ab_pg 236 km_236 := ab_vm_ok (t := kt_236) rfl kw_236 kv_236 trivial
set_option maxRecDepth 100000 in
theorem kv_237 : ab_vt km_237 kt_237 = true := by decide +kernel
set_option maxRecDepth 100000 in
theorem kw_237 : ab_vm km_237 1474 109 = true := by decide +kernel
theorem kk_237 : ab_mok ab_pg 237 km_237 := ab_vm_ok (t := kt_237) rfl kw_237 kv_237 trivial
set_option maxRecDepth 100000 in
theorem kv_238 : ab_vt km_238 kt_238 = true := by decide +kernel
set_option maxRecDepth 100000 in
theorem kw_238 : ab_vm km_238 1485 109 = true := by decide +kernel
theorem kk_238 : ab_mok ab_pg 238 km_238 := ab_vm_ok (t := kt_238) rfl kw_238 kv_238 trivial
set_option maxRecDepth 100000 in
theorem kv_239 : ab_vt km_239 kt_239 = true := by decide +kernel
set_option maxRecDepth 100000 in
theorem kw_239 : ab_vm km_239 595 110 = true := by decide +kernel
theorem kk_239 : ab_mok ab_pg 239 km_239 := ab_vm_ok (t := kt_239) rfl kw_239 kv_239 trivial
set_option maxRecDepth 100000 in
theorem kv_240 : ab_vt km_240 kt_240 = true := by decide +kernel
set_option maxRecDepth 100000 in
theorem kw_240 : ab_vm km_240 1503 103 = true := by decide +kernel
theorem kk_240 : ab_mok ab_pg 240 km_240 := ab_vm_ok (t := kt_240) rfl kw_240 kv_240 trivial
set_option maxRecDepth 100000 in
theorem kv_241 : ab_vt km_241 kt_241 = true := by decide +kernel
set_option maxRecDepth 100000 in
theorem kw_241 : ab_vm km_241 1507 110 = true := by decide +kernel
theorem kk_241 : ab_mok ab_pg 241 km_241 := ab_vm_ok (t := kt_241) rfl kw_241 kv_241 trivial
set_option maxRecDepth 100000 in
theorem kv_242 : ab_vt km_242 kt_242 = true := by decide +kernel
set_option maxRecDepth 100000 in
theorem kw_242 : ab_vm km_242 2095 116 = true := by decide +kernel
theorem kk_242 : ab_mok ab_pg 242 km_242 := ab_vm_ok (t := kt_242) rfl kw_242 kv_242 trivial
set_option maxRecDepth 100000 in
theorem kv_243 : ab_vt km_243 kt_243 = true := by decide +kernel
set_option maxRecDepth 100000 in
theorem kw_243 : ab_vm km_243 583 110 = true := by decide +kernel
theorem kk_243 : ab_mok ab_pg 243 km_243 := ab_vm_ok (t := kt_243) rfl kw_243 kv_243 trivial
set_option maxRecDepth 100000 in
theorem kv_244 : ab_vt km_244 kt_244 = true := by decide +kernel
set_option maxRecDepth 100000 in
theorem kw_244 : ab_vm km_244 1352 111 = true := by decide +kernel
theorem kk_244 : ab_mok ab_pg 244 km_244 := ab_vm_ok (t := kt_244) rfl kw_244 kv_244 trivial
set_option maxRecDepth 100000 in
theorem kv_245 : ab_vt km_245 kt_245 = true := by decide +kernel
set_option maxRecDepth 100000 in
theorem kw_245 : ab_vm km_245 2138 116 = true := by decide +kernel
theorem kk_245 : ab_mok ab_pg 245 km_245 := ab_vm_ok (t := kt_245) rfl kw_245 kv_245 trivial
set_option maxRecDepth 100000 in
theorem kv_246 : ab_vt km_246 kt_246 = true := by decide +kernel
set_option maxRecDepth 100000 in
theorem kw_246 : ab_vm km_246 1526 111 = true := by decide +kernel
theorem kk_246 : ab_mok ab_pg 246 km_246 := ab_vm_ok (t := kt_246) rfl kw_246 kv_246 trivial
set_option maxRecDepth 100000 in
theorem kv_247 : ab_vt km_247 kt_247 = true := by decide +kernel
set_option maxRecDepth 100000 in
theorem kw_247 : ab_vm km_247 1553 111 = true := by decide +kernel
theorem kk_247 : ab_mok ab_pg 247 km_247 := ab_vm_ok (t := kt_247) rfl kw_247 kv_247 trivial
set_option maxRecDepth 100000 in
theorem kv_248 : ab_vt km_248 kt_248 = true := by decide +kernel
set_option maxRecDepth 100000 in
theorem kw_248 : ab_vm km_248 1564 113 = true := by decide +kernel
theorem kk_248 : ab_mok ab_pg 248 km_248 := ab_vm_ok (t := kt_248) rfl kw_248 kv_248 trivial
set_option maxRecDepth 100000 in
theorem kv_249 : ab_vt km_249 kt_249 = true := by decide +kernel
set_option maxRecDepth 100000 in
theorem kw_249 : ab_vm km_249 642 113 = true := by decide +kernel
theorem kk_249 : ab_mok ab_pg 249 km_249 := ab_vm_ok (t := kt_249) rfl kw_249 kv_249 trivial
set_option maxRecDepth 100000 in
theorem kv_250 : ab_vt km_250 kt_250 = true := by decide +kernel
set_option maxRecDepth 100000 in
theorem kw_250 : ab_vm km_250 651 113 = true := by decide +kernel
theorem kk_250 : ab_mok ab_pg 250 km_250 := ab_vm_ok (t := kt_250) rfl kw_250 kv_250 trivial
set_option maxRecDepth 100000 in
theorem kv_251 : ab_vt km_251 kt_251 = true := by decide +kernel
set_option maxRecDepth 100000 in
theorem kw_251 : ab_vm km_251 671 113 = true := by decide +kernel
theorem kk_251 : ab_mok ab_pg 251 km_251 := ab_vm_ok (t := kt_251) rfl kw_251 kv_251 trivial
set_option maxRecDepth 100000 in
theorem kv_252 : ab_vt km_252 kt_252 = true := by decide +kernel
set_option maxRecDepth 100000 in
theorem kw_252 : ab_vm km_252 1503 103 = true := by decide +kernel
theorem kk_252 : ab_mok ab_pg 252 km_252 := ab_vm_ok (t := kt_252) rfl kw_252 kv_252 trivial
set_option maxRecDepth 100000 in
theorem kv_253 : ab_vt km_253 kt_253 = true := by decide +kernel
set_option maxRecDepth 100000 in
theorem kw_253 : ab_vm km_253 684 126 = true := by decide +kernel
theorem kk_253 : ab_mok ab_pg 253 km_253 := ab_vm_ok (t := kt_253) rfl kw_253 kv_253 trivial
set_option maxRecDepth 100000 in
theorem kv_254 : ab_vt km_254 kt_254 = true := by decide +kernel
set_option maxRecDepth 100000 in
theorem kw_254 : ab_vm km_254 991 113 = true := by decide +kernel
theorem kk_254 : ab_mok ab_pg 254 km_254 := ab_vm_ok (t := kt_254) rfl kw_254 kv_254 trivial
set_option maxRecDepth 100000 in
theorem kv_255 : ab_vt km_255 kt_255 = true := by decide +kernel
set_option maxRecDepth 100000 in
theorem kw_255 : ab_vm km_255 999 113 = true := by decide +kernel
theorem kk_255 : ab_mok ab_pg 255 km_255 := ab_vm_ok (t := kt_255) rfl kw_255 kv_255 trivial
set_option maxRecDepth 100000 in
theorem kv_256 : ab_vt km_256 kt_256 = true := by decide +kernel
set_option maxRecDepth 100000 in
theorem kw_256 : ab_vm km_256 2300 116 = true := by decide +kernel
theorem kk_256 : ab_mok ab_pg 256 km_256 := ab_vm_ok (t := kt_256) rfl kw_256 kv_256 trivial
set_option maxRecDepth 100000 in
theorem kv_257 : ab_vt km_257 kt_257 = true := by decide +kernel
set_option maxRecDepth 100000 in
theorem kw_257 : ab_vm km_257 1581 113 = true := by decide +kernel
theorem kk_257 : ab_mok ab_pg 257 km_257 := ab_vm_ok (t := kt_257) rfl kw_257 kv_257 trivial
set_option maxRecDepth 100000 in
theorem kv_258 : ab_vt km_258 kt_258 = true := by decide +kernel
set_option maxRecDepth 100000 in
theorem kw_258 : ab_vm km_258 1593 103 = true := by decide +kernel
theorem kk_258 : ab_mok ab_pg 258 km_258 := ab_vm_ok (t := kt_258) rfl kw_258 kv_258 trivial
set_option maxRecDepth 100000 in
theorem kv_259 : ab_vt km_259 kt_259 = true := by decide +kernel
set_option maxRecDepth 100000 in
theorem kw_259 : ab_vm km_259 1613 108 = true := by decide +kernel
theorem kk_259 : ab_mok ab_pg 259 km_259 := ab_vm_ok (t := kt_259) rfl kw_259 kv_259 trivial
set_option maxRecDepth 100000 in
theorem kv_260 : ab_vt km_260 kt_260 = true := by decide +kernel
set_option maxRecDepth 100000 in
theorem kw_260 : ab_vm km_260 1645 108 = true := by decide +kernel
theorem kk_260 : ab_mok ab_pg 260 km_260 := ab_vm_ok (t := kt_260) rfl kw_260 kv_260 trivial
set_option maxRecDepth 100000 in
theorem kv_261 : ab_vt km_261 kt_261 = true := by decide +kernel
set_option maxRecDepth 100000 in
theorem kw_261 : ab_vm km_261 1028 110 = true := by decide +kernel
theorem kk_261 : ab_mok ab_pg 261 km_261 := ab_vm_ok (t := kt_261) rfl kw_261 kv_261 trivial
set_option maxRecDepth 100000 in
theorem kv_262 : ab_vt km_262 kt_262 = true := by decide +kernel
set_option maxRecDepth 100000 in
theorem kw_262 : ab_vm km_262 1032 110 = true := by decide +kernel
theorem kk_262 : ab_mok ab_pg 262 km_262 := ab_vm_ok (t := kt_262) rfl kw_262 kv_262 trivial
set_option maxRecDepth 100000 in
theorem kv_263 : ab_vt km_263 kt_263 = true := by decide +kernel
set_option maxRecDepth 100000 in
theorem kw_263 : ab_vm km_263 587 109 = true := by decide +kernel
theorem kk_263 : ab_mok ab_pg 263 km_263 := ab_vm_ok (t := kt_263) rfl kw_263 kv_263 trivial
set_option maxRecDepth 100000 in
theorem kv_264 : ab_vt km_264 kt_264 = true := by decide +kernel
set_option maxRecDepth 100000 in
theorem kw_264 : ab_vm km_264 1044 109 = true := by decide +kernel
theorem kk_264 : ab_mok ab_pg 264 km_264 := ab_vm_ok (t := kt_264) rfl kw_264 kv_264 trivial
set_option maxRecDepth 100000 in
theorem kv_265 : ab_vt km_265 kt_265 = true := by decide +kernel
set_option maxRecDepth 100000 in
theorem kw_265 : ab_vm km_265 1687 109 = true := by decide +kernel
theorem kk_265 : ab_mok ab_pg 265 km_265 := ab_vm_ok (t := kt_265) rfl kw_265 kv_265 trivial
set_option maxRecDepth 100000 in
theorem kv_266 : ab_vt km_266 kt_266 = true := by decide +kernel
set_option maxRecDepth 100000 in
theorem kw_266 : ab_vm km_266 1699 109 = true := by decide +kernel
theorem kk_266 : ab_mok ab_pg 266 km_266 := ab_vm_ok (t := kt_266) rfl kw_266 kv_266 trivial
set_option maxRecDepth 100000 in
theorem kv_267 : ab_vt km_267 kt_267 = true := by decide +kernel
set_option maxRecDepth 100000 in
theorem kw_267 : ab_vm km_267 1703 110 = true := by decide +kernel
theorem kk_267 : ab_mok ab_pg 267 km_267 := ab_vm_ok (t := kt_267) rfl kw_267 kv_267 trivial
set_option maxRecDepth 100000 in
theorem kv_268 : ab_vt km_268 kt_268 = true := by decide +kernel
set_option maxRecDepth 100000 in
theorem kw_268 : ab_vm km_268 1714 110 = true := by decide +kernel
theorem kk_268 : ab_mok ab_pg 268 km_268 := ab_vm_ok (t := kt_268) rfl kw_268 kv_268 trivial
set_option maxRecDepth 100000 in
theorem kv_269 : ab_vt km_269 kt_269 = true := by decide +kernel
set_option maxRecDepth 100000 in
theorem kw_269 : ab_vm km_269 1732 111 = true := by decide +kernel
theorem kk_269 : ab_mok ab_pg 269 km_269 := ab_vm_ok (t := kt_269) rfl kw_269 kv_269 trivial
set_option maxRecDepth 100000 in
theorem kv_270 : ab_vt km_270 kt_270 = true := by decide +kernel
set_option maxRecDepth 100000 in
theorem kw_270 : ab_vm km_270 2164 116 = true := by decide +kernel
theorem kk_270 : ab_mok ab_pg 270 km_270 := ab_vm_ok (t := kt_270) rfl kw_270 kv_270 trivial
set_option maxRecDepth 100000 in
theorem kv_271 : ab_vt km_271 kt_271 = true := by decide +kernel
set_option maxRecDepth 100000 in
theorem kw_271 : ab_vm km_271 638 109 = true := by decide +kernel
theorem kk_271 : ab_mok ab_pg 271 km_271 := ab_vm_ok (t := kt_271) rfl kw_271 kv_271 trivial
set_option maxRecDepth 100000 in
theorem kv_272 : ab_vt km_272 kt_272 = true := by decide +kernel
set_option maxRecDepth 100000 in
theorem kw_272 : ab_vm km_272 1752 109 = true := by decide +kernel
theorem kk_272 : ab_mok ab_pg 272 km_272 := ab_vm_ok (t := kt_272) rfl kw_272 kv_272 trivial
set_option maxRecDepth 100000 in
theorem kv_273 : ab_vt km_273 kt_273 = true := by decide +kernel
set_option maxRecDepth 100000 in
theorem kw_273 : ab_vm km_273 1770 103 = true := by decide +kernel
theorem kk_273 : ab_mok ab_pg 273 km_273 := ab_vm_ok (t := kt_273) rfl kw_273 kv_273 trivial
set_option maxRecDepth 100000 in
theorem kv_274 : ab_vt km_274 kt_274 = true := by decide +kernel
set_option maxRecDepth 100000 in
theorem kw_274 : ab_vm km_274 1774 114 = true := by decide +kernel
theorem kk_274 : ab_mok ab_pg 274 km_274 := ab_vm_ok (t := kt_274) rfl kw_274 kv_274 trivial
set_option maxRecDepth 100000 in
theorem kv_275 : ab_vt km_275 kt_275 = true := by decide +kernel
set_option maxRecDepth 100000 in
theorem kw_275 : ab_vm km_275 1799 114 = true := by decide +kernel
theorem kk_275 : ab_mok ab_pg 275 km_275 := ab_vm_ok (t := kt_275) rfl kw_275 kv_275 trivial
set_option maxRecDepth 100000 in
theorem kv_276 : ab_vt km_276 kt_276 = true := by decide +kernel
set_option maxRecDepth 100000 in
theorem kw_276 : ab_vm km_276 2392 116 = true := by decide +kernel
theorem kk_276 : ab_mok ab_pg 276 km_276 := ab_vm_ok (t := kt_276) rfl kw_276 kv_276 trivial
set_option maxRecDepth 100000 in
theorem kv_277 : ab_vt km_277 kt_277 = true := by decide +kernel
set_option maxRecDepth 100000 in
theorem kw_277 : ab_vm km_277 2397 116 = true := by decide +kernel
theorem kk_277 : ab_mok ab_pg 277 km_277 := ab_vm_ok (t := kt_277) rfl kw_277 kv_277 trivial
set_option maxRecDepth 100000 in
theorem kv_278 : ab_vt km_278 kt_278 = true := by decide +kernel
set_option maxRecDepth 100000 in
theorem kw_278 : ab_vm km_278 1503 103 = true := by decide +kernel
theorem kk_278 : ab_mok ab_pg 278 km_278 := ab_vm_ok (t := kt_278) rfl kw_278 kv_278 trivial
set_option maxRecDepth 100000 in
theorem kv_279 : ab_vt km_279 kt_279 = true := by decide +kernel
set_option maxRecDepth 100000 in
theorem kw_279 : ab_vm km_279 1062 115 = true := by decide +kernel
theorem kk_279 : ab_mok ab_pg 279 km_279 := ab_vm_ok (t := kt_279) rfl kw_279 kv_279 trivial
set_option maxRecDepth 100000 in
theorem kv_280 : ab_vt km_280 kt_280 = true := by decide +kernel
set_option maxRecDepth 100000 in
theorem kw_280 : ab_vm km_280 2413 116 = true := by decide +kernel
theorem kk_280 : ab_mok ab_pg 280 km_280 := ab_vm_ok (t := kt_280) rfl kw_280 kv_280 trivial
set_option maxRecDepth 100000 in
theorem kv_281 : ab_vt km_281 kt_281 = true := by decide +kernel
set_option maxRecDepth 100000 in
theorem kw_281 : ab_vm km_281 1831 116 = true := by decide +kernel
theorem kk_281 : ab_mok ab_pg 281 km_281 := ab_vm_ok (t := kt_281) rfl kw_281 kv_281 trivial
set_option maxRecDepth 100000 in
theorem kv_282 : ab_vt km_282 kt_282 = true := by decide +kernel
set_option maxRecDepth 100000 in
theorem kw_282 : ab_vm km_282 1111 104 = true := by decide +kernel
theorem kk_282 : ab_mok ab_pg 282 km_282 := ab_vm_ok (t := kt_282) rfl kw_282 kv_282 trivial
set_option maxRecDepth 100000 in
theorem kv_283 : ab_vt km_283 kt_283 = true := by decide +kernel
set_option maxRecDepth 100000 in
theorem kw_283 : ab_vm km_283 1123 105 = true := by decide +kernel
theorem kk_283 : ab_mok ab_pg 283 km_283 := ab_vm_ok (t := kt_283) rfl kw_283 kv_283 trivial
set_option maxRecDepth 100000 in
theorem kv_284 : ab_vt km_284 kt_284 = true := by decide +kernel
set_option maxRecDepth 100000 in
theorem kw_284 : ab_vm km_284 1208 109 = true := by decide +kernel
theorem kk_284 : ab_mok ab_pg 284 km_284 := ab_vm_ok (t := kt_284) rfl kw_284 kv_284 trivial
set_option maxRecDepth 100000 in
theorem kv_285 : ab_vt km_285 kt_285 = true := by decide +kernel
set_option maxRecDepth 100000 in
theorem kw_285 : ab_vm km_285 1213 109 = true := by decide +kernel
theorem kk_285 : ab_mok ab_pg 285 km_285 := ab_vm_ok (t := kt_285) rfl kw_285 kv_285 trivial
set_option maxRecDepth 100000 in
theorem kv_286 : ab_vt km_286 kt_286 = true := by decide +kernel
set_option maxRecDepth 100000 in
theorem kw_286 : ab_vm km_286 2010 116 = true := by decide +kernel
theorem kk_286 : ab_mok ab_pg 286 km_286 := ab_vm_ok (t := kt_286) rfl kw_286 kv_286 trivial
set_option maxRecDepth 100000 in
theorem kv_287 : ab_vt km_287 kt_287 = true := by decide +kernel
set_option maxRecDepth 100000 in
theorem kw_287 : ab_vm km_287 2019 116 = true := by decide +kernel
theorem kk_287 : ab_mok ab_pg 287 km_287 := ab_vm_ok (t := kt_287) rfl kw_287 kv_287 trivial
set_option maxRecDepth 100000 in
theorem kv_288 : ab_vt km_288 kt_288 = true := by decide +kernel
set_option maxRecDepth 100000 in
theorem kw_288 : ab_vm km_288 2013 116 = true := by decide +kernel
theorem kk_288 : ab_mok ab_pg 288 km_288 := ab_vm_ok (t := kt_288) rfl kw_288 kv_288 trivial
set_option maxRecDepth 100000 in
theorem kv_289 : ab_vt km_289 kt_289 = true := by decide +kernel
set_option maxRecDepth 100000 in
theorem kw_289 : ab_vm km_289 1240 106 = true := by decide +kernel
theorem kk_289 : ab_mok ab_pg 289 km_289 := ab_vm_ok (t := kt_289) rfl kw_289 kv_289 trivial
set_option maxRecDepth 100000 in
theorem kv_290 : ab_vt km_290 kt_290 = true := by decide +kernel
set_option maxRecDepth 100000 in
theorem kw_290 : ab_vm km_290 1164 104 = true := by decide +kernel
theorem kk_290 : ab_mok ab_pg 290 km_290 := ab_vm_ok (t := kt_290) rfl kw_290 kv_290 trivial
set_option maxRecDepth 100000 in
theorem kv_291 : ab_vt km_291 kt_291 = true := by decide +kernel
set_option maxRecDepth 100000 in
theorem kw_291 : ab_vm km_291 2063 116 = true := by decide +kernel
theorem kk_291 : ab_mok ab_pg 291 km_291 := ab_vm_ok (t := kt_291) rfl kw_291 kv_291 trivial
set_option maxRecDepth 100000 in
theorem kv_292 : ab_vt km_292 kt_292 = true := by decide +kernel
set_option maxRecDepth 100000 in
theorem kw_292 : ab_vm km_292 1285 112 = true := by decide +kernel
theorem kk_292 : ab_mok ab_pg 292 km_292 := ab_vm_ok (t := kt_292) rfl kw_292 kv_292 trivial
set_option maxRecDepth 100000 in
theorem kv_293 : ab_vt km_293 kt_293 = true := by decide +kernel
set_option maxRecDepth 100000 in
theorem kw_293 : ab_vm km_293 1319 112 = true := by decide +kernel
theorem kk_293 : ab_mok ab_pg 293 km_293 := ab_vm_ok (t := kt_293) rfl kw_293 kv_293 trivial
set_option maxRecDepth 100000 in
theorem kv_294 : ab_vt km_294 kt_294 = true := by decide +kernel
set_option maxRecDepth 100000 in
theorem kw_294 : ab_vm km_294 1384 108 = true := by decide +kernel
theorem kk_294 : ab_mok ab_pg 294 km_294 := ab_vm_ok (t := kt_294) rfl kw_294 kv_294 trivial
set_option maxRecDepth 100000 in
theorem kv_295 : ab_vt km_295 kt_295 = true := by decide +kernel
set_option maxRecDepth 100000 in
theorem kw_295 : ab_vm km_295 570 109 = true := by decide +kernel
theorem kk_295 : ab_mok ab_pg 295 km_295 := ab_vm_ok (t := kt_295) rfl kw_295 kv_295 trivial
set_option maxRecDepth 100000 in
theorem kv_296 : ab_vt km_296 kt_296 = true := by decide +kernel
set_option maxRecDepth 100000 in
theorem kw_296 : ab_vm km_296 605 110 = true := by decide +kernel
theorem kk_296 : ab_mok ab_pg 296 km_296 := ab_vm_ok (t := kt_296) rfl kw_296 kv_296 trivial
set_option maxRecDepth 100000 in
theorem kv_297 : ab_vt km_297 kt_297 = true := by decide +kernel
set_option maxRecDepth 100000 in
theorem kw_297 : ab_vm km_297 613 106 = true := by decide +kernel
theorem kk_297 : ab_mok ab_pg 297 km_297 := ab_vm_ok (t := kt_297) rfl kw_297 kv_297 trivial
set_option maxRecDepth 100000 in
theorem kv_298 : ab_vt km_298 kt_298 = true := by decide +kernel
set_option maxRecDepth 100000 in
theorem kw_298 : ab_vm km_298 2098 116 = true := by decide +kernel
theorem kk_298 : ab_mok ab_pg 298 km_298 := ab_vm_ok (t := kt_298) rfl kw_298 kv_298 trivial
set_option maxRecDepth 100000 in
theorem kv_299 : ab_vt km_299 kt_299 = true := by decide +kernel
set_option maxRecDepth 100000 in
theorem kw_299 : ab_vm km_299 1356 126 = true := by decide +kernel
theorem kk_299 : ab_mok ab_pg 299 km_299 := ab_vm_ok (t := kt_299) rfl kw_299 kv_299 trivial
set_option maxRecDepth 100000 in
theorem kv_300 : ab_vt km_300 kt_300 = true := by decide +kernel
set_option maxRecDepth 100000 in
theorem kw_300 : ab_vm km_300 1362 111 = true := by decide +kernel
theorem kk_300 : ab_mok ab_pg 300 km_300 := ab_vm_ok (t := kt_300) rfl kw_300 kv_300 trivial
set_option maxRecDepth 100000 in
theorem kv_301 : ab_vt km_301 kt_301 = true := by decide +kernel
set_option maxRecDepth 100000 in
theorem kw_301 : ab_vm km_301 1530 111 = true := by decide +kernel
theorem kk_301 : ab_mok ab_pg 301 km_301 := ab_vm_ok (t := kt_301) rfl kw_301 kv_301 trivial
set_option maxRecDepth 100000 in
theorem kv_302 : ab_vt km_302 kt_302 = true := by decide +kernel
set_option maxRecDepth 100000 in
theorem kw_302 : ab_vm km_302 1542 111 = true := by decide +kernel
theorem kk_302 : ab_mok ab_pg 302 km_302 := ab_vm_ok (t := kt_302) rfl kw_302 kv_302 trivial
set_option maxRecDepth 100000 in
theorem kv_303 : ab_vt km_303 kt_303 = true := by decide +kernel
set_option maxRecDepth 100000 in
theorem kw_303 : ab_vm km_303 1567 131 = true := by decide +kernel
theorem kk_303 : ab_mok ab_pg 303 km_303 := ab_vm_ok (t := kt_303) rfl kw_303 kv_303 trivial
set_option maxRecDepth 100000 in
theorem kv_304 : ab_vt km_304 kt_304 = true := by decide +kernel
set_option maxRecDepth 100000 in
theorem kw_304 : ab_vm km_304 646 113 = true := by decide +kernel
theorem kk_304 : ab_mok ab_pg 304 km_304 := ab_vm_ok (t := kt_304) rfl kw_304 kv_304 trivial
set_option maxRecDepth 100000 in
theorem kv_305 : ab_vt km_305 kt_305 = true := by decide +kernel
set_option maxRecDepth 100000 in
theorem kw_305 : ab_vm km_305 655 113 = true := by decide +kernel
theorem kk_305 : ab_mok ab_pg 305 km_305 := ab_vm_ok (t := kt_305) rfl kw_305 kv_305 trivial
set_option maxRecDepth 100000 in
theorem kv_306 : ab_vt km_306 kt_306 = true := by decide +kernel
set_option maxRecDepth 100000 in
theorem kw_306 : ab_vm km_306 674 126 = true := by decide +kernel
theorem kk_306 : ab_mok ab_pg 306 km_306 := ab_vm_ok (t := kt_306) rfl kw_306 kv_306 trivial
set_option maxRecDepth 100000 in
theorem kv_307 : ab_vt km_307 kt_307 = true := by decide +kernel
set_option maxRecDepth 100000 in
theorem kw_307 : ab_vm km_307 680 113 = true := by decide +kernel
theorem kk_307 : ab_mok ab_pg 307 km_307 := ab_vm_ok (t := kt_307) rfl kw_307 kv_307 trivial
set_option maxRecDepth 100000 in
theorem kv_308 : ab_vt km_308 kt_308 = true := by decide +kernel
set_option maxRecDepth 100000 in
theorem kw_308 : ab_vm km_308 687 126 = true := by decide +kernel
theorem kk_308 : ab_mok ab_pg 308 km_308 := ab_vm_ok (t := kt_308) rfl kw_308 kv_308 trivial
set_option maxRecDepth 100000 in
theorem kv_309 : ab_vt km_309 kt_309 = true := by decide +kernel
set_option maxRecDepth 100000 in
theorem kw_309 : ab_vm km_309 995 113 = true := by decide +kernel
theorem kk_309 : ab_mok ab_pg 309 km_309 := ab_vm_ok (t := kt_309) rfl kw_309 kv_309 trivial
set_option maxRecDepth 100000 in
theorem kv_310 : ab_vt km_310 kt_310 = true := by decide +kernel
set_option maxRecDepth 100000 in
theorem kw_310 : ab_vm km_310 1003 113 = true := by decide +kernel
theorem kk_310 : ab_mok ab_pg 310 km_310 := ab_vm_ok (t := kt_310) rfl kw_310 kv_310 trivial
set_option maxRecDepth 100000 in
theorem kv_311 : ab_vt km_311 kt_311 = true := by decide +kernel
set_option maxRecDepth 100000 in
theorem kw_311 : ab_vm km_311 1617 108 = true := by decide +kernel
theorem kk_311 : ab_mok ab_pg 311 km_311 := ab_vm_ok (t := kt_311) rfl kw_311 kv_311 trivial
set_option maxRecDepth 100000 in
theorem kv_312 : ab_vt km_312 kt_312 = true := by decide +kernel
set_option maxRecDepth 100000 in
theorem kw_312 : ab_vm km_312 1623 108 = true := by decide +kernel
theorem kk_312 : ab_mok ab_pg 312 km_312 := ab_vm_ok (t := kt_312) rfl kw_312 kv_312 trivial
set_option maxRecDepth 100000 in
theorem kv_313 : ab_vt km_313 kt_313 = true := by decide +kernel
set_option maxRecDepth 100000 in
theorem kw_313 : ab_vm km_313 1628 108 = true := by decide +kernel
theorem kk_313 : ab_mok ab_pg 313 km_313 := ab_vm_ok (t := kt_313) rfl kw_313 kv_313 trivial
set_option maxRecDepth 100000 in
theorem kv_314 : ab_vt km_314 kt_314 = true := by decide +kernel
set_option maxRecDepth 100000 in
theorem kw_314 : ab_vm km_314 1633 108 = true := by decide +kernel
theorem kk_314 : ab_mok ab_pg 314 km_314 := ab_vm_ok (t := kt_314) rfl kw_314 kv_314 trivial
set_option maxRecDepth 100000 in
theorem kv_315 : ab_vt km_315 kt_315 = true := by decide +kernel
set_option maxRecDepth 100000 in
theorem kw_315 : ab_vm km_315 1637 108 = true := by decide +kernel
theorem kk_315 : ab_mok ab_pg 315 km_315 := ab_vm_ok (t := kt_315) rfl kw_315 kv_315 trivial
set_option maxRecDepth 100000 in
theorem kv_316 : ab_vt km_316 kt_316 = true := by decide +kernel
set_option maxRecDepth 100000 in
theorem kw_316 : ab_vm km_316 1779 114 = true := by decide +kernel
theorem kk_316 : ab_mok ab_pg 316 km_316 := ab_vm_ok (t := kt_316) rfl kw_316 kv_316 trivial
set_option maxRecDepth 100000 in
theorem kv_317 : ab_vt km_317 kt_317 = true := by decide +kernel
set_option maxRecDepth 100000 in
theorem kw_317 : ab_vm km_317 1784 114 = true := by decide +kernel
theorem kk_317 : ab_mok ab_pg 317 km_317 := ab_vm_ok (t := kt_317) rfl kw_317 kv_317 trivial
set_option maxRecDepth 100000 in
theorem kv_318 : ab_vt km_318 kt_318 = true := by decide +kernel
set_option maxRecDepth 100000 in
theorem kw_318 : ab_vm km_318 1789 114 = true := by decide +kernel
theorem kk_318 : ab_mok ab_pg 318 km_318 := ab_vm_ok (t := kt_318) rfl kw_318 kv_318 trivial
set_option maxRecDepth 100000 in
theorem kv_319 : ab_vt km_319 kt_319 = true := by decide +kernel
set_option maxRecDepth 100000 in
theorem kw_319 : ab_vm km_319 1115 104 = true := by decide +kernel
theorem kk_319 : ab_mok ab_pg 319 km_319 := ab_vm_ok (t := kt_319) rfl kw_319 kv_319 trivial
set_option maxRecDepth 100000 in
theorem kv_320 : ab_vt km_320 kt_320 = true := by decide +kernel
set_option maxRecDepth 100000 in
theorem kw_320 : ab_vm km_320 1128 104 = true := by decide +kernel
theorem kk_320 : ab_mok ab_pg 320 km_320 := ab_vm_ok (t := kt_320) rfl kw_320 kv_320 trivial
set_option maxRecDepth 100000 in
theorem kv_321 : ab_vt km_321 kt_321 = true := by decide +kernel
set_option maxRecDepth 100000 in
theorem kw_321 : ab_vm km_321 1173 105 = true := by decide +kernel
theorem kk_321 : ab_mok ab_pg 321 km_321 := ab_vm_ok (t := kt_321) rfl kw_321 kv_321 trivial
set_option maxRecDepth 100000 in
theorem kv_322 : ab_vt km_322 kt_322 = true := by decide +kernel
set_option maxRecDepth 100000 in
theorem kw_322 : ab_vm km_322 1185 105 = true := by decide +kernel
theorem kk_322 : ab_mok ab_pg 322 km_322 := ab_vm_ok (t := kt_322) rfl kw_322 kv_322 trivial
set_option maxRecDepth 100000 in
theorem kv_323 : ab_vt km_323 kt_323 = true := by decide +kernel
set_option maxRecDepth 100000 in
theorem kw_323 : ab_vm km_323 1177 104 = true := by decide +kernel
theorem kk_323 : ab_mok ab_pg 323 km_323 := ab_vm_ok (t := kt_323) rfl kw_323 kv_323 trivial
set_option maxRecDepth 100000 in
theorem kv_324 : ab_vt km_324 kt_324 = true := by decide +kernel
set_option maxRecDepth 100000 in
theorem kw_324 : ab_vm km_324 1194 104 = true := by decide +kernel
theorem kk_324 : ab_mok ab_pg 324 km_324 := ab_vm_ok (t := kt_324) rfl kw_324 kv_324 trivial
set_option maxRecDepth 100000 in
theorem kv_325 : ab_vt km_325 kt_325 = true := by decide +kernel
set_option maxRecDepth 100000 in
theorem kw_325 : ab_vm km_325 1217 109 = true := by decide +kernel
theorem kk_325 : ab_mok ab_pg 325 km_325 := ab_vm_ok (t := kt_325) rfl kw_325 kv_325 trivial
set_option maxRecDepth 100000 in
theorem kv_326 : ab_vt km_326 kt_326 = true := by decide +kernel
set_option maxRecDepth 100000 in
theorem kw_326 : ab_vm km_326 1244 106 = true := by decide +kernel
theorem kk_326 : ab_mok ab_pg 326 km_326 := ab_vm_ok (t := kt_326) rfl kw_326 kv_326 trivial
set_option maxRecDepth 100000 in
theorem kv_327 : ab_vt km_327 kt_327 = true := by decide +kernel
set_option maxRecDepth 100000 in
theorem kw_327 : ab_vm km_327 1264 104 = true := by decide +kernel
theorem kk_327 : ab_mok ab_pg 327 km_327 := ab_vm_ok (t := kt_327) rfl kw_327 kv_327 trivial
set_option maxRecDepth 100000 in
theorem kv_328 : ab_vt km_328 kt_328 = true := by decide +kernel
set_option maxRecDepth 100000 in
theorem kw_328 : ab_vm km_328 1256 106 = true := by decide +kernel
theorem kk_328 : ab_mok ab_pg 328 km_328 := ab_vm_ok (t := kt_328) rfl kw_328 kv_328 trivial
set_option maxRecDepth 100000 in
theorem kv_329 : ab_vt km_329 kt_329 = true := by decide +kernel
set_option maxRecDepth 100000 in
theorem kw_329 : ab_vm km_329 2067 116 = true := by decide +kernel
theorem kk_329 : ab_mok ab_pg 329 km_329 := ab_vm_ok (t := kt_329) rfl kw_329 kv_329 trivial
set_option maxRecDepth 100000 in
theorem kv_330 : ab_vt km_330 kt_330 = true := by decide +kernel
set_option maxRecDepth 100000 in
theorem kw_330 : ab_vm km_330 2075 116 = true := by decide +kernel
theorem kk_330 : ab_mok ab_pg 330 km_330 := ab_vm_ok (t := kt_330) rfl kw_330 kv_330 trivial
set_option maxRecDepth 100000 in
theorem kv_331 : ab_vt km_331 kt_331 = true := by decide +kernel
set_option maxRecDepth 100000 in
theorem kw_331 : ab_vm km_331 1294 112 = true := by decide +kernel
theorem kk_331 : ab_mok ab_pg 331 km_331 := ab_vm_ok (t := kt_331) rfl kw_331 kv_331 trivial
set_option maxRecDepth 100000 in
theorem kv_332 : ab_vt km_332 kt_332 = true := by decide +kernel
set_option maxRecDepth 100000 in
theorem kw_332 : ab_vm km_332 1297 112 = true := by decide +kernel
theorem kk_332 : ab_mok ab_pg 332 km_332 := ab_vm_ok (t := kt_332) rfl kw_332 kv_332 trivial
set_option maxRecDepth 100000 in
theorem kv_333 : ab_vt km_333 kt_333 = true := by decide +kernel
set_option maxRecDepth 100000 in
theorem kw_333 : ab_vm km_333 1301 112 = true := by decide +kernel
theorem kk_333 : ab_mok ab_pg 333 km_333 := ab_vm_ok (t := kt_333) rfl kw_333 kv_333 trivial
set_option maxRecDepth 100000 in
theorem kv_334 : ab_vt km_334 kt_334 = true := by decide +kernel
set_option maxRecDepth 100000 in
theorem kw_334 : ab_vm km_334 1306 112 = true := by decide +kernel
theorem kk_334 : ab_mok ab_pg 334 km_334 := ab_vm_ok (t := kt_334) rfl kw_334 kv_334 trivial
set_option maxRecDepth 100000 in
theorem kv_335 : ab_vt km_335 kt_335 = true := by decide +kernel
set_option maxRecDepth 100000 in
theorem kw_335 : ab_vm km_335 1324 109 = true := by decide +kernel
theorem kk_335 : ab_mok ab_pg 335 km_335 := ab_vm_ok (t := kt_335) rfl kw_335 kv_335 trivial
set_option maxRecDepth 100000 in
theorem kv_336 : ab_vt km_336 kt_336 = true := by decide +kernel
set_option maxRecDepth 100000 in
theorem kw_336 : ab_vm km_336 1332 109 = true := by decide +kernel
theorem kk_336 : ab_mok ab_pg 336 km_336 := ab_vm_ok (t := kt_336) rfl kw_336 kv_336 trivial
set_option maxRecDepth 100000 in
theorem kv_337 : ab_vt km_337 kt_337 = true := by decide +kernel
set_option maxRecDepth 100000 in
theorem kw_337 : ab_vm km_337 1336 109 = true := by decide +kernel
theorem kk_337 : ab_mok ab_pg 337 km_337 := ab_vm_ok (t := kt_337) rfl kw_337 kv_337 trivial
set_option maxRecDepth 100000 in
theorem kv_338 : ab_vt km_338 kt_338 = true := by decide +kernel
set_option maxRecDepth 100000 in
theorem kw_338 : ab_vm km_338 1340 109 = true := by decide +kernel
theorem kk_338 : ab_mok ab_pg 338 km_338 := ab_vm_ok (t := kt_338) rfl kw_338 kv_338 trivial
set_option maxRecDepth 100000 in
theorem kv_339 : ab_vt km_339 kt_339 = true := by decide +kernel
set_option maxRecDepth 100000 in
theorem kw_339 : ab_vm km_339 1328 109 = true := by decide +kernel
theorem kk_339 : ab_mok ab_pg 339 km_339 := ab_vm_ok (t := kt_339) rfl kw_339 kv_339 trivial
set_option maxRecDepth 100000 in
theorem kv_340 : ab_vt km_340 kt_340 = true := by decide +kernel
set_option maxRecDepth 100000 in
theorem kw_340 : ab_vm km_340 1346 112 = true := by decide +kernel
theorem kk_340 : ab_mok ab_pg 340 km_340 := ab_vm_ok (t := kt_340) rfl kw_340 kv_340 trivial
set_option maxRecDepth 100000 in
theorem kv_341 : ab_vt km_341 kt_341 = true := by decide +kernel
set_option maxRecDepth 100000 in
theorem kw_341 : ab_vm km_341 1368 112 = true := by decide +kernel
theorem kk_341 : ab_mok ab_pg 341 km_341 := ab_vm_ok (t := kt_341) rfl kw_341 kv_341 trivial
set_option maxRecDepth 100000 in
theorem kv_342 : ab_vt km_342 kt_342 = true := by decide +kernel
set_option maxRecDepth 100000 in
theorem kw_342 : ab_vm km_342 616 106 = true := by decide +kernel
theorem kk_342 : ab_mok ab_pg 342 km_342 := ab_vm_ok (t := kt_342) rfl kw_342 kv_342 trivial
set_option maxRecDepth 100000 in
theorem kv_343 : ab_vt km_343 kt_343 = true := by decide +kernel
set_option maxRecDepth 100000 in
theorem kw_343 : ab_vm km_343 1533 126 = true := by decide +kernel
theorem kk_343 : ab_mok ab_pg 343 km_343 := ab_vm_ok (t := kt_343) rfl kw_343 kv_343 trivial
set_option maxRecDepth 100000 in
theorem kv_344 : ab_vt km_344 kt_344 = true := by decide +kernel
set_option maxRecDepth 100000 in
theorem kw_344 : ab_vm km_344 1538 111 = true := by decide +kernel
theorem kk_344 : ab_mok ab_pg 344 km_344 := ab_vm_ok (t := kt_344) rfl kw_344 kv_344 trivial
set_option maxRecDepth 100000 in
theorem kv_345 : ab_vt km_345 kt_345 = true := by decide +kernel
set_option maxRecDepth 100000 in
theorem kw_345 : ab_vm km_345 1641 108 = true := by decide +kernel
theorem kk_345 : ab_mok ab_pg 345 km_345 := ab_vm_ok (t := kt_345) rfl kw_345 kv_345 trivial
set_option maxRecDepth 100000 in
theorem kv_346 : ab_vt km_346 kt_346 = true := by decide +kernel
set_option maxRecDepth 100000 in
theorem kw_346 : ab_vm km_346 1793 109 = true := by decide +kernel
theorem kk_346 : ab_mok ab_pg 346 km_346 := ab_vm_ok (t := kt_346) rfl kw_346 kv_346 trivial
set_option maxRecDepth 100000 in
theorem kv_347 : ab_vt km_347 kt_347 = true := by decide +kernel
set_option maxRecDepth 100000 in
theorem kw_347 : ab_vm km_347 1119 104 = true := by decide +kernel
theorem kk_347 : ab_mok ab_pg 347 km_347 := ab_vm_ok (t := kt_347) rfl kw_347 kv_347 trivial
set_option maxRecDepth 100000 in
theorem kv_348 : ab_vt km_348 kt_348 = true := by decide +kernel
set_option maxRecDepth 100000 in
theorem kw_348 : ab_vm km_348 1131 104 = true := by decide +kernel
theorem kk_348 : ab_mok ab_pg 348 km_348 := ab_vm_ok (t := kt_348) rfl kw_348 kv_348 trivial
set_option maxRecDepth 100000 in
theorem kv_349 : ab_vt km_349 kt_349 = true := by decide +kernel
set_option maxRecDepth 100000 in
theorem kw_349 : ab_vm km_349 1135 104 = true := by decide +kernel
theorem kk_349 : ab_mok ab_pg 349 km_349 := ab_vm_ok (t := kt_349) rfl kw_349 kv_349 trivial
set_option maxRecDepth 100000 in
theorem kv_350 : ab_vt km_350 kt_350 = true := by decide +kernel
set_option maxRecDepth 100000 in
theorem kw_350 : ab_vm km_350 1189 104 = true := by decide +kernel
theorem kk_350 : ab_mok ab_pg 350 km_350 := ab_vm_ok (t := kt_350) rfl kw_350 kv_350 trivial
set_option maxRecDepth 100000 in
theorem kv_351 : ab_vt km_351 kt_351 = true := by decide +kernel
set_option maxRecDepth 100000 in
theorem kw_351 : ab_vm km_351 1180 104 = true := by decide +kernel
theorem kk_351 : ab_mok ab_pg 351 km_351 := ab_vm_ok (t := kt_351) rfl kw_351 kv_351 trivial
set_option maxRecDepth 100000 in
theorem kv_352 : ab_vt km_352 kt_352 = true := by decide +kernel
set_option maxRecDepth 100000 in
theorem kw_352 : ab_vm km_352 1248 106 = true := by decide +kernel
theorem kk_352 : ab_mok ab_pg 352 km_352 := ab_vm_ok (t := kt_352) rfl kw_352 kv_352 trivial
set_option maxRecDepth 100000 in
theorem kv_353 : ab_vt km_353 kt_353 = true := by decide +kernel
set_option maxRecDepth 100000 in
theorem kw_353 : ab_vm km_353 2079 116 = true := by decide +kernel
theorem kk_353 : ab_mok ab_pg 353 km_353 := ab_vm_ok (t := kt_353) rfl kw_353 kv_353 trivial
set_option maxRecDepth 100000 in
theorem kv_354 : ab_vt km_354 kt_354 = true := by decide +kernel
set_option maxRecDepth 100000 in
theorem kw_354 : ab_vm km_354 835 122 = true := by decide +kernel
theorem kk_354 : ab_mok ab_pg 354 km_354 := ab_vm_ok (t := kt_354) rfl kw_354 kv_354 trivial
set_option maxRecDepth 100000 in
theorem kv_355 : ab_vt km_355 kt_355 = true := by decide +kernel
set_option maxRecDepth 100000 in
theorem kw_355 : ab_vm km_355 1140 122 = true := by decide +kernel
theorem kk_355 : ab_mok ab_pg 355 km_355 := ab_vm_ok (t := kt_355) rfl kw_355 kv_355 trivial
set_option maxRecDepth 100000 in
theorem kv_356 : ab_vt km_356 kt_356 = true := by decide +kernel
set_option maxRecDepth 100000 in
theorem kw_356 : ab_vm km_356 839 122 = true := by decide +kernel
theorem kk_356 : ab_mok ab_pg 356 km_356 := ab_vm_ok (t := kt_356) rfl kw_356 kv_356 trivial
set_option maxRecDepth 100000 in
theorem kv_357 : ab_vt km_357 kt_357 = true := by decide +kernel
set_option maxRecDepth 100000 in
theorem kw_357 : ab_vm km_357 1144 122 = true := by decide +kernel
theorem kk_357 : ab_mok ab_pg 357 km_357 := ab_vm_ok (t := kt_357) rfl kw_357 kv_357 trivial
set_option maxRecDepth 100000 in
theorem kv_358 : ab_vt km_358 kt_358 = true := by decide +kernel
set_option maxRecDepth 100000 in
theorem kw_358 : ab_vm km_358 1147 123 = true := by decide +kernel
theorem kk_358 : ab_mok ab_pg 358 km_358 := ab_vm_ok (t := kt_358) rfl kw_358 kv_358 trivial
