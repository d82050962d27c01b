set_option maxRecDepth 100000 in
theorem oa_270 : okAll 270 = true := by decide +kernel
set_option maxRecDepth 100000 in
theorem om_270 : okM 270 = true := by decide +kernel
set_option maxRecDepth 100000 in
theorem oa_271 : okAll 271 = true := by decide +kernel
set_option maxRecDepth 100000 in
theorem om_271 : okM 271 = true := by decide +kernel
set_option maxRecDepth 100000 in
theorem oa_272 : okAll 272 = true := by decide +kernel
set_option maxRecDepth 100000 in
theorem om_272 : okM 272 = true := by decide +kernel
set_option maxRecDepth 100000 in
theorem oa_273 : okAll 273 = true := by decide +kernel
set_option maxRecDepth 100000 in
theorem om_273 : okM 273 = true := by decide +kernel
set_option maxRecDepth 100000 in
theorem oa_274 : okAll 274 = true := by decide +kernel
set_option maxRecDepth 100000 in
theorem om_274 : okM 274 = true := by decide +kernel
set_option maxRecDepth 100000 in
theorem oa_275 : okAll 275 = true := by decide +kernel
set_option maxRecDepth 100000 in
theorem om_275 : okM 275 = true := by decide +kernel
set_option maxRecDepth 100000 in
theorem oa_276 : okAll 276 = true := by decide +kernel
set_option maxRecDepth 100000 in
theorem om_276 : okM 276 = true := by decide +kernel
set_option maxRecDepth 100000 in
theorem oa_277 : okAll 277 = true := by decide +kernel
set_option maxRecDepth 100000 in
theorem om_277 : okM 277 = true := by decide +kernel
set_option maxRecDepth 100000 in
theorem oa_278 : okAll 278 = true := by decide +kernel
set_option maxRecDepth 100000 in
theorem om_278 : okM 278 = true := by decide +kernel
set_option maxRecDepth 100000 in
theorem oa_279 : okAll 279 = true := by decide +kernel
set_option maxRecDepth 100000 in
theorem om_279 : okM 279 = true := by decide +kernel
set_option maxRecDepth 100000 in
theorem oa_280 : okAll 280 = true := by decide +kernel
set_option maxRecDepth 100000 in
theorem om_280 : okM 280 = true := by decide +kernel
set_option maxRecDepth 100000 in
theorem oa_281 : okAll 281 = true := by decide +kernel
set_option maxRecDepth 100000 in
theorem om_281 : okM 281 = true := by decide +kernel
set_option maxRecDepth 100000 in
theorem oa_282 : okAll 282 = true := by decide +kernel
set_option maxRecDepth 100000 in
theorem om_282 : okM 282 = true := by decide +kernel
set_option maxRecDepth 100000 in
theorem oa_283 : okAll 283 = true := by decide +kernel
set_option maxRecDepth 100000 in
theorem om_283 : okM 283 = true := by decide +kernel
set_option maxRecDepth 100000 in
theorem oa_284 : okAll 284 = true := by decide +kernel
set_option maxRecDepth 100000 in
theorem om_284 : okM 284 = true := by decide +kernel
set_option maxRecDepth 100000 in
theorem oa_285 : okAll 285 = true := by decide +kernel
set_option maxRecDepth 100000 in
theorem om_285 : okM 285 = true := by decide +kernel
set_option maxRecDepth 100000 in
theorem oa_286 : okAll 286 = true := by decide +kernel
set_option maxRecDepth 100000 in
theorem om_286 : okM 286 = true := by decide +kernel
set_option maxRecDepth 100000 in
theorem oa_287 : okAll 287 = true := by decide +kernel
set_option maxRecDepth 100000 in
theorem om_287 : okM 287 = true := by decide +kernel
set_option maxRecDepth 100000 in
theorem oa_288 : okAll 288 = true := by decide +kernel
set_option maxRecDepth 100000 in
theorem om_288 : okM 288 = true := by decide +kernel
set_option maxRecDepth 100000 in
theorem oa_289 : okAll 289 = true := by decide +kernel
set_option maxRecDepth 100000 in
theorem om_289 : okM 289 = true := by decide +kernel
set_option maxRecDepth 100000 in
theorem oa_290 : okAll 290 = true := by decide +kernel
set_option maxRecDepth 100000 in
theorem om_290 : okM 290 = true := by decide +kernel
set_option maxRecDepth 100000 in
theorem oa_291 : okAll 291 = true := by decide +kernel
set_option maxRecDepth 100000 in
theorem om_291 : okM 291 = true := by decide +kernel
set_option maxRecDepth 100000 in
theorem oa_292 : okAll 292 = true := by decide +kernel
set_option maxRecDepth 100000 in
theorem om_292 : okM 292 = true := by decide +kernel
set_option maxRecDepth 100000 in
theorem oa_293 : okAll 293 = true := by decide +kernel
set_option maxRecDepth 100000 in
theorem om_293 : okM 293 = true := by decide +kernel
set_option maxRecDepth 100000 in
theorem oa_294 : okAll 294 = true := by decide +kernel
set_option maxRecDepth 100000 in
theorem om_294 : okM 294 = true := by decide +kernel
set_option maxRecDepth 100000 in
theorem oa_295 : okAll 295 = true := by decide +kernel
set_option maxRecDepth 100000 in
theorem om_295 : okM 295 = true := by decide +kernel
set_option maxRecDepth 100000 in
theorem oa_299 : okAll 299 = true := by decide +kernel
set_option maxRecDepth 100000 in
theorem om_299 : okM 299 = true := by decide +kernel
set_option maxRecDepth 100000 in
theorem oa_300 : okAll 300 = true := by decide +kernel
set_option maxRecDepth 100000 in
theorem om_300 : okM 300 = true := by decide +kernel
set_option maxRecDepth 100000 in
theorem oa_301 : okAll 301 = true := by decide +kernel
set_option maxRecDepth 100000 in
theorem om_301 : okM 301 = true := by decide +kernel
set_option maxRecDepth 100000 in
theorem oa_302 : okAll 302 = true := by decide +kernel
set_option maxRecDepth 100000 in
theorem om_302 : okM 302 = true := by decide +kernel
set_option maxRecDepth 100000 in
theorem oa_303 : okAll 303 = true := by decide +kernel
set_option maxRecDepth 100000 in
theorem om_303 : okM 303 = true := by decide +kernel
set_option maxRecDepth 100000 in
theorem oa_304 : okAll 304 = true := by decide +kernel
set_option maxRecDepth 100000 in
theorem om_304 : okM 304 = true := by decide +kernel
set_option maxRecDepth 100000 in
theorem oa_305 : okAll 305 = true := by decide +kernel
set_option maxRecDepth 100000 in
theorem om_305 : okM 305 = true := by decide +kernel
set_option maxRecDepth 100000 in
theorem oa_306 : okAll 306 = true := by decide +kernel
set_option maxRecDepth 100000 in
theorem om_306 : okM 306 = true := by decide +kernel
set_option maxRecDepth 100000 in
theorem oa_307 : okAll 307 = true := by decide +kernel
set_option maxRecDepth 100000 in
theorem om_307 : okM 307 = true := by decide +kernel
set_option maxRecDepth 100000 in
theorem oa_308 : okAll 308 = true := by decide +kernel
set_option maxRecDepth 100000 in
theorem om_308 : okM 308 = true := by decide +kernel
set_option maxRecDepth 100000 in
theorem oa_309 : okAll 309 = true := by decide +kernel
set_option maxRecDepth 100000 in
theorem om_309 : okM 309 = true := by decide +kernel
set_option maxRecDepth 100000 in
theorem oa_310 : okAll 310 = true := by decide +kernel
set_option maxRecDepth 100000 in
theorem om_310 : okM 310 = true := by decide +kernel
