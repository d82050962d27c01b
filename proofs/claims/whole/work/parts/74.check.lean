set_option maxRecDepth 100000 in
theorem oa_205 : okAll 205 = true := by decide +kernel
set_option maxRecDepth 100000 in
theorem om_205 : okM 205 = true := by decide +kernel
set_option maxRecDepth 100000 in
theorem oa_206 : okAll 206 = true := by decide +kernel
set_option maxRecDepth 100000 in
theorem om_206 : okM 206 = true := by decide +kernel
set_option maxRecDepth 100000 in
theorem oa_207 : okAll 207 = true := by decide +kernel
set_option maxRecDepth 100000 in
theorem om_207 : okM 207 = true := by decide +kernel
set_option maxRecDepth 100000 in
theorem oa_208 : okAll 208 = true := by decide +kernel
set_option maxRecDepth 100000 in
theorem om_208 : okM 208 = true := by decide +kernel
set_option maxRecDepth 100000 in
theorem oa_209 : okAll 209 = true := by decide +kernel
set_option maxRecDepth 100000 in
theorem om_209 : okM 209 = true := by decide +kernel
set_option maxRecDepth 100000 in
theorem oa_210 : okAll 210 = true := by decide +kernel
set_option maxRecDepth 100000 in
theorem om_210 : okM 210 = true := by decide +kernel
set_option maxRecDepth 100000 in
theorem oa_211 : okAll 211 = true := by decide +kernel
set_option maxRecDepth 100000 in
theorem om_211 : okM 211 = true := by decide +kernel
set_option maxRecDepth 100000 in
theorem oa_212 : okAll 212 = true := by decide +kernel
set_option maxRecDepth 100000 in
theorem om_212 : okM 212 = true := by decide +kernel
set_option maxRecDepth 100000 in
theorem oa_213 : okAll 213 = true := by decide +kernel
set_option maxRecDepth 100000 in
theorem om_213 : okM 213 = true := by decide +kernel
set_option maxRecDepth 100000 in
theorem oa_214 : okAll 214 = true := by decide +kernel
set_option maxRecDepth 100000 in
theorem om_214 : okM 214 = true := by decide +kernel
set_option maxRecDepth 100000 in
theorem oa_215 : okAll 215 = true := by decide +kernel
set_option maxRecDepth 100000 in
theorem om_215 : okM 215 = true := by decide +kernel
set_option maxRecDepth 100000 in
theorem oa_216 : okAll 216 = true := by decide +kernel
set_option maxRecDepth 100000 in
theorem om_216 : okM 216 = true := by decide +kernel
set_option maxRecDepth 100000 in
theorem oa_217 : okAll 217 = true := by decide +kernel
set_option maxRecDepth 100000 in
theorem om_217 : okM 217 = true := by decide +kernel
set_option maxRecDepth 100000 in
theorem oa_218 : okAll 218 = true := by decide +kernel
set_option maxRecDepth 100000 in
theorem om_218 : okM 218 = true := by decide +kernel
set_option maxRecDepth 100000 in
theorem oa_219 : okAll 219 = true := by decide +kernel
set_option maxRecDepth 100000 in
theorem om_219 : okM 219 = true := by decide +kernel
set_option maxRecDepth 100000 in
theorem oa_220 : okAll 220 = true := by decide +kernel
set_option maxRecDepth 100000 in
theorem om_220 : okM 220 = true := by decide +kernel
set_option maxRecDepth 100000 in
theorem oa_221 : okAll 221 = true := by decide +kernel
set_option maxRecDepth 100000 in
theorem om_221 : okM 221 = true := by decide +kernel
set_option maxRecDepth 100000 in
theorem oa_222 : okAll 222 = true := by decide +kernel
set_option maxRecDepth 100000 in
theorem om_222 : okM 222 = true := by decide +kernel
set_option maxRecDepth 100000 in
theorem oa_223 : okAll 223 = true := by decide +kernel
set_option maxRecDepth 100000 in
theorem om_223 : okM 223 = true := by decide +kernel
set_option maxRecDepth 100000 in
theorem oa_224 : okAll 224 = true := by decide +kernel
set_option maxRecDepth 100000 in
theorem om_224 : okM 224 = true := by decide +kernel
set_option maxRecDepth 100000 in
theorem oa_225 : okAll 225 = true := by decide +kernel
set_option maxRecDepth 100000 in
theorem om_225 : okM 225 = true := by decide +kernel
set_option maxRecDepth 100000 in
theorem oa_226 : okAll 226 = true := by decide +kernel
set_option maxRecDepth 100000 in
theorem om_226 : okM 226 = true := by decide +kernel
set_option maxRecDepth 100000 in
theorem oa_227 : okAll 227 = true := by decide +kernel
set_option maxRecDepth 100000 in
theorem om_227 : okM 227 = true := by decide +kernel
set_option maxRecDepth 100000 in
theorem oa_228 : okAll 228 = true := by decide +kernel
set_option maxRecDepth 100000 in
theorem om_228 : okM 228 = true := by decide +kernel
set_option maxRecDepth 100000 in
theorem oa_229 : okAll 229 = true := by decide +kernel
set_option maxRecDepth 100000 in
theorem om_229 : okM 229 = true := by decide +kernel
set_option maxRecDepth 100000 in
theorem oa_230 : okAll 230 = true := by decide +kernel
set_option maxRecDepth 100000 in
theorem om_230 : okM 230 = true := by decide +kernel
set_option maxRecDepth 100000 in
theorem oa_231 : okAll 231 = true := by decide +kernel
set_option maxRecDepth 100000 in
theorem om_231 : okM 231 = true := by decide +kernel
set_option maxRecDepth 100000 in
theorem oa_232 : okAll 232 = true := by decide +kernel
set_option maxRecDepth 100000 in
theorem om_232 : okM 232 = true := by decide +kernel
set_option maxRecDepth 100000 in
theorem oa_233 : okAll 233 = true := by decide +kernel
set_option maxRecDepth 100000 in
theorem om_233 : okM 233 = true := by decide +kernel
set_option maxRecDepth 100000 in
theorem oa_234 : okAll 234 = true := by decide +kernel
set_option maxRecDepth 100000 in
theorem om_234 : okM 234 = true := by decide +kernel
set_option maxRecDepth 100000 in
theorem oa_235 : okAll 235 = true := by decide +kernel
set_option maxRecDepth 100000 in
theorem om_235 : okM 235 = true := by decide +kernel
set_option maxRecDepth 100000 in
theorem oa_236 : okAll 236 = true := by decide +kernel
set_option maxRecDepth 100000 in
theorem om_236 : okM 236 = true := by decide +kernel
set_option maxRecDepth 100000 in
theorem oa_237 : okAll 237 = true := by decide +kernel
set_option maxRecDepth 100000 in
theorem om_237 : okM 237 = true := by decide +kernel
set_option maxRecDepth 100000 in
theorem oa_238 : okAll 238 = true := by decide +kernel
set_option maxRecDepth 100000 in
theorem om_238 : okM 238 = true := by decide +kernel
set_option maxRecDepth 100000 in
theorem oa_239 : okAll 239 = true := by decide +kernel
set_option maxRecDepth 100000 in
theorem om_239 : okM 239 = true := by decide +kernel
set_option maxRecDepth 100000 in
theorem oa_240 : okAll 240 = true := by decide +kernel
set_option maxRecDepth 100000 in
theorem om_240 : okM 240 = true := by decide +kernel
set_option maxRecDepth 100000 in
theorem oa_241 : okAll 241 = true := by decide +kernel
set_option maxRecDepth 100000 in
theorem om_241 : okM 241 = true := by decide +kernel
set_option maxRecDepth 100000 in
theorem oa_242 : okAll 242 = true := by decide +kernel
set_option maxRecDepth 100000 in
theorem om_242 : okM 242 = true := by decide +kernel
set_option maxRecDepth 100000 in
theorem oa_243 : okAll 243 = true := by decide +kernel
set_option maxRecDepth 100000 in
theorem om_243 : okM 243 = true := by decide +kernel
