set_option maxRecDepth 100000 in
theorem oa_244 : okAll 244 = true := by decide +kernel
set_option maxRecDepth 100000 in
theorem om_244 : okM 244 = true := by decide +kernel
set_option maxRecDepth 100000 in
theorem oa_245 : okAll 245 = true := by decide +kernel
set_option maxRecDepth 100000 in
theorem om_245 : okM 245 = true := by decide +kernel
set_option maxRecDepth 100000 in
theorem oa_246 : okAll 246 = true := by decide +kernel
set_option maxRecDepth 100000 in
theorem om_246 : okM 246 = true := by decide +kernel
set_option maxRecDepth 100000 in
theorem oa_247 : okAll 247 = true := by decide +kernel
set_option maxRecDepth 100000 in
theorem om_247 : okM 247 = true := by decide +kernel
set_option maxRecDepth 100000 in
theorem oa_248 : okAll 248 = true := by decide +kernel
set_option maxRecDepth 100000 in
theorem om_248 : okM 248 = true := by decide +kernel
set_option maxRecDepth 100000 in
theorem oa_249 : okAll 249 = true := by decide +kernel
set_option maxRecDepth 100000 in
theorem om_249 : okM 249 = true := by decide +kernel
set_option maxRecDepth 100000 in
theorem oa_250 : okAll 250 = true := by decide +kernel
set_option maxRecDepth 100000 in
theorem om_250 : okM 250 = true := by decide +kernel
set_option maxRecDepth 100000 in
theorem oa_251 : okAll 251 = true := by decide +kernel
set_option maxRecDepth 100000 in
theorem om_251 : okM 251 = true := by decide +kernel
set_option maxRecDepth 100000 in
theorem oa_252 : okAll 252 = true := by decide +kernel
set_option maxRecDepth 100000 in
theorem om_252 : okM 252 = true := by decide +kernel
set_option maxRecDepth 100000 in
theorem oa_253 : okAll 253 = true := by decide +kernel
set_option maxRecDepth 100000 in
theorem om_253 : okM 253 = true := by decide +kernel
set_option maxRecDepth 100000 in
theorem oa_254 : okAll 254 = true := by decide +kernel
set_option maxRecDepth 100000 in
theorem om_254 : okM 254 = true := by decide +kernel
set_option maxRecDepth 100000 in
theorem oa_255 : okAll 255 = true := by decide +kernel
set_option maxRecDepth 100000 in
theorem om_255 : okM 255 = true := by decide +kernel
set_option maxRecDepth 100000 in
theorem oa_256 : okAll 256 = true := by decide +kernel
set_option maxRecDepth 100000 in
theorem om_256 : okM 256 = true := by decide +kernel
set_option maxRecDepth 100000 in
theorem oa_257 : okAll 257 = true := by decide +kernel
set_option maxRecDepth 100000 in
theorem om_257 : okM 257 = true := by decide +kernel
set_option maxRecDepth 100000 in
theorem oa_258 : okAll 258 = true := by decide +kernel
set_option maxRecDepth 100000 in
theorem om_258 : okM 258 = true := by decide +kernel
set_option maxRecDepth 100000 in
theorem oa_259 : okAll 259 = true := by decide +kernel
set_option maxRecDepth 100000 in
theorem om_259 : okM 259 = true := by decide +kernel
set_option maxRecDepth 100000 in
theorem oa_260 : okAll 260 = true := by decide +kernel
set_option maxRecDepth 100000 in
theorem om_260 : okM 260 = true := by decide +kernel
set_option maxRecDepth 100000 in
theorem oa_261 : okAll 261 = true := by decide +kernel
set_option maxRecDepth 100000 in
theorem om_261 : okM 261 = true := by decide +kernel
set_option maxRecDepth 100000 in
theorem oa_262 : okAll 262 = true := by decide +kernel
set_option maxRecDepth 100000 in
theorem om_262 : okM 262 = true := by decide +kernel
set_option maxRecDepth 100000 in
theorem oa_263 : okAll 263 = true := by decide +kernel
set_option maxRecDepth 100000 in
theorem om_263 : okM 263 = true := by decide +kernel
set_option maxRecDepth 100000 in
theorem oa_264 : okAll 264 = true := by decide +kernel
set_option maxRecDepth 100000 in
theorem om_264 : okM 264 = true := by decide +kernel
set_option maxRecDepth 100000 in
theorem oa_265 : okAll 265 = true := by decide +kernel
set_option maxRecDepth 100000 in
theorem om_265 : okM 265 = true := by decide +kernel
set_option maxRecDepth 100000 in
theorem oa_266 : okAll 266 = true := by decide +kernel
set_option maxRecDepth 100000 in
theorem om_266 : okM 266 = true := by decide +kernel
set_option maxRecDepth 100000 in
theorem oa_267 : okAll 267 = true := by decide +kernel
set_option maxRecDepth 100000 in
theorem om_267 : okM 267 = true := by decide +kernel
set_option maxRecDepth 100000 in
theorem oa_268 : okAll 268 = true := by decide +kernel
set_option maxRecDepth 100000 in
theorem om_268 : okM 268 = true := by decide +kernel
set_option maxRecDepth 100000 in
theorem oa_269 : okAll 269 = true := by decide +kernel
set_option maxRecDepth 100000 in
theorem om_269 : okM 269 = true := by decide +kernel
