theorem all_split {α : Type} (p : α → Bool) (l : List α) (n : Nat) (h1 : (l.take n).all p = true) (h2 : (l.drop n).all p = true) : l.all p = true := by
  rw [← List.take_append_drop n l, List.all_append, h1, h2]
  rfl
set_option maxRecDepth 100000 in
theorem okl_0 : (((tb_296.drop 0).take 6).all (fun q => q.2.all (fun r => qz_ok 296 r.1 r.2))) = true := by decide +kernel
set_option maxRecDepth 100000 in
theorem okl_1 : (((tb_296.drop 6).take 6).all (fun q => q.2.all (fun r => qz_ok 296 r.1 r.2))) = true := by decide +kernel
set_option maxRecDepth 100000 in
theorem okl_2 : (((tb_296.drop 12).take 6).all (fun q => q.2.all (fun r => qz_ok 296 r.1 r.2))) = true := by decide +kernel
set_option maxRecDepth 100000 in
theorem okl_3 : (((tb_296.drop 18).take 6).all (fun q => q.2.all (fun r => qz_ok 296 r.1 r.2))) = true := by decide +kernel
set_option maxRecDepth 100000 in
theorem okl_4 : (((tb_296.drop 24).take 6).all (fun q => q.2.all (fun r => qz_ok 296 r.1 r.2))) = true := by decide +kernel
