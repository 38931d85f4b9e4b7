set_option maxRecDepth 100000 in
theorem okl_10 : (((tb_296.drop 60).take 6).all (fun q => q.2.all (fun r => qz_ok 296 r.1 r.2))) = true := by decide +kernel
set_option maxRecDepth 100000 in
theorem okl_11 : (((tb_296.drop 66).take 6).all (fun q => q.2.all (fun r => qz_ok 296 r.1 r.2))) = true := by decide +kernel
set_option maxRecDepth 100000 in
theorem okl_12 : (((tb_296.drop 72).take 6).all (fun q => q.2.all (fun r => qz_ok 296 r.1 r.2))) = true := by decide +kernel
set_option maxRecDepth 100000 in
theorem okl_13 : (((tb_296.drop 78).take 6).all (fun q => q.2.all (fun r => qz_ok 296 r.1 r.2))) = true := by decide +kernel
set_option maxRecDepth 100000 in
theorem okl_14 : (((tb_296.drop 84).take 6).all (fun q => q.2.all (fun r => qz_ok 296 r.1 r.2))) = true := by decide +kernel
