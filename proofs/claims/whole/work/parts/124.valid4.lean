set_option maxRecDepth 100000 in
theorem ok_267 : (tb_267.all (fun q => q.2.all (fun r => qz_ok 267 r.1 r.2))) = true := by decide +kernel
set_option maxRecDepth 100000 in
theorem ok_268 : (tb_268.all (fun q => q.2.all (fun r => qz_ok 268 r.1 r.2))) = true := by decide +kernel
set_option maxRecDepth 100000 in
theorem ok_269 : (tb_269.all (fun q => q.2.all (fun r => qz_ok 269 r.1 r.2))) = true := by decide +kernel
set_option maxRecDepth 100000 in
theorem ok_270 : (tb_270.all (fun q => q.2.all (fun r => qz_ok 270 r.1 r.2))) = true := by decide +kernel
set_option maxRecDepth 100000 in
theorem ok_271 : (tb_271.all (fun q => q.2.all (fun r => qz_ok 271 r.1 r.2))) = true := by decide +kernel
set_option maxRecDepth 100000 in
theorem ok_272 : (tb_272.all (fun q => q.2.all (fun r => qz_ok 272 r.1 r.2))) = true := by decide +kernel
set_option maxRecDepth 100000 in
theorem ok_273 : (tb_273.all (fun q => q.2.all (fun r => qz_ok 273 r.1 r.2))) = true := by decide +kernel
set_option maxRecDepth 100000 in
theorem ok_274 : (tb_274.all (fun q => q.2.all (fun r => qz_ok 274 r.1 r.2))) = true := by decide +kernel
set_option maxRecDepth 100000 in
theorem ok_275 : (tb_275.all (fun q => q.2.all (fun r => qz_ok 275 r.1 r.2))) = true := by decide +kernel
set_option maxRecDepth 100000 in
theorem ok_276 : (tb_276.all (fun q => q.2.all (fun r => qz_ok 276 r.1 r.2))) = true := by decide +kernel
set_option maxRecDepth 100000 in
theorem ok_277 : (tb_277.all (fun q => q.2.all (fun r => qz_ok 277 r.1 r.2))) = true := by decide +kernel
set_option maxRecDepth 100000 in
theorem ok_278 : (tb_278.all (fun q => q.2.all (fun r => qz_ok 278 r.1 r.2))) = true := by decide +kernel
set_option maxRecDepth 100000 in
theorem ok_279 : (tb_279.all (fun q => q.2.all (fun r => qz_ok 279 r.1 r.2))) = true := by decide +kernel
set_option maxRecDepth 100000 in
theorem ok_280 : (tb_280.all (fun q => q.2.all (fun r => qz_ok 280 r.1 r.2))) = true := by decide +kernel
set_option maxRecDepth 100000 in
theorem ok_281 : (tb_281.all (fun q => q.2.all (fun r => qz_ok 281 r.1 r.2))) = true := by decide +kernel
set_option maxRecDepth 100000 in
theorem ok_282 : (tb_282.all (fun q => q.2.all (fun r => qz_ok 282 r.1 r.2))) = true := by decide +kernel
set_option maxRecDepth 100000 in
theorem ok_283 : (tb_283.all (fun q => q.2.all (fun r => qz_ok 283 r.1 r.2))) = true := by decide +kernel
set_option maxRecDepth 100000 in
theorem ok_284 : (tb_284.all (fun q => q.2.all (fun r => qz_ok 284 r.1 r.2))) = true := by decide +kernel
set_option maxRecDepth 100000 in
theorem ok_285 : (tb_285.all (fun q => q.2.all (fun r => qz_ok 285 r.1 r.2))) = true := by decide +kernel
set_option maxRecDepth 100000 in
theorem ok_286 : (tb_286.all (fun q => q.2.all (fun r => qz_ok 286 r.1 r.2))) = true := by decide +kernel
set_option maxRecDepth 100000 in
theorem ok_287 : (tb_287.all (fun q => q.2.all (fun r => qz_ok 287 r.1 r.2))) = true := by decide +kernel
set_option maxRecDepth 100000 in
theorem ok_288 : (tb_288.all (fun q => q.2.all (fun r => qz_ok 288 r.1 r.2))) = true := by decide +kernel
set_option maxRecDepth 100000 in
theorem ok_289 : (tb_289.all (fun q => q.2.all (fun r => qz_ok 289 r.1 r.2))) = true := by decide +kernel
set_option maxRecDepth 100000 in
theorem ok_290 : (tb_290.all (fun q => q.2.all (fun r => qz_ok 290 r.1 r.2))) = true := by decide +kernel
set_option maxRecDepth 100000 in
theorem ok_291 : (tb_291.all (fun q => q.2.all (fun r => qz_ok 291 r.1 r.2))) = true := by decide +kernel
set_option maxRecDepth 100000 in
theorem ok_292 : (tb_292.all (fun q => q.2.all (fun r => qz_ok 292 r.1 r.2))) = true := by decide +kernel
set_option maxRecDepth 100000 in
theorem ok_293 : (tb_293.all (fun q => q.2.all (fun r => qz_ok 293 r.1 r.2))) = true := by decide +kernel
set_option maxRecDepth 100000 in
theorem ok_294 : (tb_294.all (fun q => q.2.all (fun r => qz_ok 294 r.1 r.2))) = true := by decide +kernel
set_option maxRecDepth 100000 in
theorem ok_295 : (tb_295.all (fun q => q.2.all (fun r => qz_ok 295 r.1 r.2))) = true := by decide +kernel
