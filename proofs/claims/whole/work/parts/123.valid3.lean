set_option maxRecDepth 100000 in
theorem ok_202 : (tb_202.all (fun q => q.2.all (fun r => qz_ok 202 r.1 r.2))) = true := by decide +kernel
set_option maxRecDepth 100000 in
theorem ok_203 : (tb_203.all (fun q => q.2.all (fun r => qz_ok 203 r.1 r.2))) = true := by decide +kernel
set_option maxRecDepth 100000 in
theorem ok_204 : (tb_204.all (fun q => q.2.all (fun r => qz_ok 204 r.1 r.2))) = true := by decide +kernel
set_option maxRecDepth 100000 in
theorem ok_205 : (tb_205.all (fun q => q.2.all (fun r => qz_ok 205 r.1 r.2))) = true := by decide +kernel
set_option maxRecDepth 100000 in
theorem ok_206 : (tb_206.all (fun q => q.2.all (fun r => qz_ok 206 r.1 r.2))) = true := by decide +kernel
set_option maxRecDepth 100000 in
theorem ok_207 : (tb_207.all (fun q => q.2.all (fun r => qz_ok 207 r.1 r.2))) = true := by decide +kernel
set_option maxRecDepth 100000 in
theorem ok_208 : (tb_208.all (fun q => q.2.all (fun r => qz_ok 208 r.1 r.2))) = true := by decide +kernel
set_option maxRecDepth 100000 in
theorem ok_209 : (tb_209.all (fun q => q.2.all (fun r => qz_ok 209 r.1 r.2))) = true := by decide +kernel
set_option maxRecDepth 100000 in
theorem ok_210 : (tb_210.all (fun q => q.2.all (fun r => qz_ok 210 r.1 r.2))) = true := by decide +kernel
set_option maxRecDepth 100000 in
theorem ok_211 : (tb_211.all (fun q => q.2.all (fun r => qz_ok 211 r.1 r.2))) = true := by decide +kernel
set_option maxRecDepth 100000 in
theorem ok_212 : (tb_212.all (fun q => q.2.all (fun r => qz_ok 212 r.1 r.2))) = true := by decide +kernel
set_option maxRecDepth 100000 in
theorem ok_213 : (tb_213.all (fun q => q.2.all (fun r => qz_ok 213 r.1 r.2))) = true := by decide +kernel
set_option maxRecDepth 100000 in
theorem ok_214 : (tb_214.all (fun q => q.2.all (fun r => qz_ok 214 r.1 r.2))) = true := by decide +kernel
set_option maxRecDepth 100000 in
theorem ok_215 : (tb_215.all (fun q => q.2.all (fun r => qz_ok 215 r.1 r.2))) = true := by decide +kernel
set_option maxRecDepth 100000 in
theorem ok_216 : (tb_216.all (fun q => q.2.all (fun r => qz_ok 216 r.1 r.2))) = true := by decide +kernel
set_option maxRecDepth 100000 in
theorem ok_217 : (tb_217.all (fun q => q.2.all (fun r => qz_ok 217 r.1 r.2))) = true := by decide +kernel
set_option maxRecDepth 100000 in
theorem ok_218 : (tb_218.all (fun q => q.2.all (fun r => qz_ok 218 r.1 r.2))) = true := by decide +kernel
set_option maxRecDepth 100000 in
theorem ok_219 : (tb_219.all (fun q => q.2.all (fun r => qz_ok 219 r.1 r.2))) = true := by decide +kernel
set_option maxRecDepth 100000 in
theorem ok_220 : (tb_220.all (fun q => q.2.all (fun r => qz_ok 220 r.1 r.2))) = true := by decide +kernel
set_option maxRecDepth 100000 in
theorem ok_221 : (tb_221.all (fun q => q.2.all (fun r => qz_ok 221 r.1 r.2))) = true := by decide +kernel
set_option maxRecDepth 100000 in
theorem ok_222 : (tb_222.all (fun q => q.2.all (fun r => qz_ok 222 r.1 r.2))) = true := by decide +kernel
set_option maxRecDepth 100000 in
theorem ok_223 : (tb_223.all (fun q => q.2.all (fun r => qz_ok 223 r.1 r.2))) = true := by decide +kernel
set_option maxRecDepth 100000 in
theorem ok_224 : (tb_224.all (fun q => q.2.all (fun r => qz_ok 224 r.1 r.2))) = true := by decide +kernel
set_option maxRecDepth 100000 in
theorem ok_225 : (tb_225.all (fun q => q.2.all (fun r => qz_ok 225 r.1 r.2))) = true := by decide +kernel
set_option maxRecDepth 100000 in
theorem ok_226 : (tb_226.all (fun q => q.2.all (fun r => qz_ok 226 r.1 r.2))) = true := by decide +kernel
set_option maxRecDepth 100000 in
theorem ok_227 : (tb_227.all (fun q => q.2.all (fun r => qz_ok 227 r.1 r.2))) = true := by decide +kernel
set_option maxRecDepth 100000 in
theorem ok_228 : (tb_228.all (fun q => q.2.all (fun r => qz_ok 228 r.1 r.2))) = true := by decide +kernel
set_option maxRecDepth 100000 in
theorem ok_229 : (tb_229.all (fun q => q.2.all (fun r => qz_ok 229 r.1 r.2))) = true := by decide +kernel
set_option maxRecDepth 100000 in
theorem ok_230 : (tb_230.all (fun q => q.2.all (fun r => qz_ok 230 r.1 r.2))) = true := by decide +kernel
set_option maxRecDepth 100000 in
theorem ok_231 : (tb_231.all (fun q => q.2.all (fun r => qz_ok 231 r.1 r.2))) = true := by decide +kernel
set_option maxRecDepth 100000 in
theorem ok_232 : (tb_232.all (fun q => q.2.all (fun r => qz_ok 232 r.1 r.2))) = true := by decide +kernel
set_option maxRecDepth 100000 in
theorem ok_233 : (tb_233.all (fun q => q.2.all (fun r => qz_ok 233 r.1 r.2))) = true := by decide +kernel
set_option maxRecDepth 100000 in
theorem ok_234 : (tb_234.all (fun q => q.2.all (fun r => qz_ok 234 r.1 r.2))) = true := by decide +kernel
set_option maxRecDepth 100000 in
theorem ok_235 : (tb_235.all (fun q => q.2.all (fun r => qz_ok 235 r.1 r.2))) = true := by decide +kernel
set_option maxRecDepth 100000 in
theorem ok_236 : (tb_236.all (fun q => q.2.all (fun r => qz_ok 236 r.1 r.2))) = true := by decide +kernel
set_option maxRecDepth 100000 in
theorem ok_237 : (tb_237.all (fun q => q.2.all (fun r => qz_ok 237 r.1 r.2))) = true := by decide +kernel
set_option maxRecDepth 100000 in
theorem ok_238 : (tb_238.all (fun q => q.2.all (fun r => qz_ok 238 r.1 r.2))) = true := by decide +kernel
set_option maxRecDepth 100000 in
theorem ok_239 : (tb_239.all (fun q => q.2.all (fun r => qz_ok 239 r.1 r.2))) = true := by decide +kernel
set_option maxRecDepth 100000 in
theorem ok_240 : (tb_240.all (fun q => q.2.all (fun r => qz_ok 240 r.1 r.2))) = true := by decide +kernel
set_option maxRecDepth 100000 in
theorem ok_241 : (tb_241.all (fun q => q.2.all (fun r => qz_ok 241 r.1 r.2))) = true := by decide +kernel
set_option maxRecDepth 100000 in
theorem ok_242 : (tb_242.all (fun q => q.2.all (fun r => qz_ok 242 r.1 r.2))) = true := by decide +kernel
set_option maxRecDepth 100000 in
theorem ok_243 : (tb_243.all (fun q => q.2.all (fun r => qz_ok 243 r.1 r.2))) = true := by decide +kernel
set_option maxRecDepth 100000 in
theorem ok_244 : (tb_244.all (fun q => q.2.all (fun r => qz_ok 244 r.1 r.2))) = true := by decide +kernel
set_option maxRecDepth 100000 in
theorem ok_245 : (tb_245.all (fun q => q.2.all (fun r => qz_ok 245 r.1 r.2))) = true := by decide +kernel
set_option maxRecDepth 100000 in
theorem ok_246 : (tb_246.all (fun q => q.2.all (fun r => qz_ok 246 r.1 r.2))) = true := by decide +kernel
set_option maxRecDepth 100000 in
theorem ok_247 : (tb_247.all (fun q => q.2.all (fun r => qz_ok 247 r.1 r.2))) = true := by decide +kernel
set_option maxRecDepth 100000 in
theorem ok_248 : (tb_248.all (fun q => q.2.all (fun r => qz_ok 248 r.1 r.2))) = true := by decide +kernel
set_option maxRecDepth 100000 in
theorem ok_249 : (tb_249.all (fun q => q.2.all (fun r => qz_ok 249 r.1 r.2))) = true := by decide +kernel
set_option maxRecDepth 100000 in
theorem ok_250 : (tb_250.all (fun q => q.2.all (fun r => qz_ok 250 r.1 r.2))) = true := by decide +kernel
set_option maxRecDepth 100000 in
theorem ok_251 : (tb_251.all (fun q => q.2.all (fun r => qz_ok 251 r.1 r.2))) = true := by decide +kernel
set_option maxRecDepth 100000 in
theorem ok_252 : (tb_252.all (fun q => q.2.all (fun r => qz_ok 252 r.1 r.2))) = true := by decide +kernel
set_option maxRecDepth 100000 in
theorem ok_253 : (tb_253.all (fun q => q.2.all (fun r => qz_ok 253 r.1 r.2))) = true := by decide +kernel
set_option maxRecDepth 100000 in
theorem ok_254 : (tb_254.all (fun q => q.2.all (fun r => qz_ok 254 r.1 r.2))) = true := by decide +kernel
set_option maxRecDepth 100000 in
theorem ok_255 : (tb_255.all (fun q => q.2.all (fun r => qz_ok 255 r.1 r.2))) = true := by decide +kernel
set_option maxRecDepth 100000 in
theorem ok_256 : (tb_256.all (fun q => q.2.all (fun r => qz_ok 256 r.1 r.2))) = true := by decide +kernel
set_option maxRecDepth 100000 in
theorem ok_257 : (tb_257.all (fun q => q.2.all (fun r => qz_ok 257 r.1 r.2))) = true := by decide +kernel
set_option maxRecDepth 100000 in
theorem ok_258 : (tb_258.all (fun q => q.2.all (fun r => qz_ok 258 r.1 r.2))) = true := by decide +kernel
set_option maxRecDepth 100000 in
theorem ok_259 : (tb_259.all (fun q => q.2.all (fun r => qz_ok 259 r.1 r.2))) = true := by decide +kernel
set_option maxRecDepth 100000 in
theorem ok_260 : (tb_260.all (fun q => q.2.all (fun r => qz_ok 260 r.1 r.2))) = true := by decide +kernel
set_option maxRecDepth 100000 in
theorem ok_261 : (tb_261.all (fun q => q.2.all (fun r => qz_ok 261 r.1 r.2))) = true := by decide +kernel
set_option maxRecDepth 100000 in
theorem ok_262 : (tb_262.all (fun q => q.2.all (fun r => qz_ok 262 r.1 r.2))) = true := by decide +kernel
set_option maxRecDepth 100000 in
theorem ok_263 : (tb_263.all (fun q => q.2.all (fun r => qz_ok 263 r.1 r.2))) = true := by decide +kernel
set_option maxRecDepth 100000 in
theorem ok_264 : (tb_264.all (fun q => q.2.all (fun r => qz_ok 264 r.1 r.2))) = true := by decide +kernel
set_option maxRecDepth 100000 in
theorem ok_265 : (tb_265.all (fun q => q.2.all (fun r => qz_ok 265 r.1 r.2))) = true := by decide +kernel
set_option maxRecDepth 100000 in
theorem ok_266 : (tb_266.all (fun q => q.2.all (fun r => qz_ok 266 r.1 r.2))) = true := by decide +kernel
