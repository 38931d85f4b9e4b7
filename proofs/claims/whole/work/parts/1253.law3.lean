set_option maxRecDepth 100000 in
theorem okl_15 : (((tb_296.drop 90).take 6).all (fun q => q.2.all (fun r => qz_ok 296 r.1 r.2))) = true := by decide +kernel
set_option maxRecDepth 100000 in
theorem okl_16 : (((tb_296.drop 96).take 6).all (fun q => q.2.all (fun r => qz_ok 296 r.1 r.2))) = true := by decide +kernel
set_option maxRecDepth 100000 in
theorem okl_17 : (((tb_296.drop 102).take 6).all (fun q => q.2.all (fun r => qz_ok 296 r.1 r.2))) = true := by decide +kernel
set_option maxRecDepth 100000 in
theorem okl_18 : (((tb_296.drop 108).take 6).all (fun q => q.2.all (fun r => qz_ok 296 r.1 r.2))) = true := by decide +kernel
