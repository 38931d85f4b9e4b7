set_option maxRecDepth 100000 in
theorem okl_5 : (((tb_296.drop 30).take 6).all (fun q => q.2.all (fun r => qz_ok 296 r.1 r.2))) = true := by decide +kernel
set_option maxRecDepth 100000 in
theorem okl_6 : (((tb_296.drop 36).take 6).all (fun q => q.2.all (fun r => qz_ok 296 r.1 r.2))) = true := by decide +kernel
set_option maxRecDepth 100000 in
theorem okl_7 : (((tb_296.drop 42).take 6).all (fun q => q.2.all (fun r => qz_ok 296 r.1 r.2))) = true := by decide +kernel
set_option maxRecDepth 100000 in
theorem okl_8 : (((tb_296.drop 48).take 6).all (fun q => q.2.all (fun r => qz_ok 296 r.1 r.2))) = true := by decide +kernel
set_option maxRecDepth 100000 in
theorem okl_9 : (((tb_296.drop 54).take 6).all (fun q => q.2.all (fun r => qz_ok 296 r.1 r.2))) = true := by decide +kernel
