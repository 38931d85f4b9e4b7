set_option maxRecDepth 100000 in
theorem ok_0 : (tb_0.all (fun q => q.2.all (fun r => qz_ok 0 r.1 r.2))) = true := by decide +kernel
set_option maxRecDepth 100000 in
theorem ok_1 : (tb_1.all (fun q => q.2.all (fun r => qz_ok 1 r.1 r.2))) = true := by decide +kernel
set_option maxRecDepth 100000 in
theorem ok_2 : (tb_2.all (fun q => q.2.all (fun r => qz_ok 2 r.1 r.2))) = true := by decide +kernel
set_option maxRecDepth 100000 in
theorem ok_3 : (tb_3.all (fun q => q.2.all (fun r => qz_ok 3 r.1 r.2))) = true := by decide +kernel
set_option maxRecDepth 100000 in
theorem ok_4 : (tb_4.all (fun q => q.2.all (fun r => qz_ok 4 r.1 r.2))) = true := by decide +kernel
set_option maxRecDepth 100000 in
theorem ok_5 : (tb_5.all (fun q => q.2.all (fun r => qz_ok 5 r.1 r.2))) = true := by decide +kernel
set_option maxRecDepth 100000 in
theorem ok_6 : (tb_6.all (fun q => q.2.all (fun r => qz_ok 6 r.1 r.2))) = true := by decide +kernel
set_option maxRecDepth 100000 in
theorem ok_7 : (tb_7.all (fun q => q.2.all (fun r => qz_ok 7 r.1 r.2))) = true := by decide +kernel
set_option maxRecDepth 100000 in
theorem ok_8 : (tb_8.all (fun q => q.2.all (fun r => qz_ok 8 r.1 r.2))) = true := by decide +kernel
set_option maxRecDepth 100000 in
theorem ok_9 : (tb_9.all (fun q => q.2.all (fun r => qz_ok 9 r.1 r.2))) = true := by decide +kernel
set_option maxRecDepth 100000 in
theorem ok_10 : (tb_10.all (fun q => q.2.all (fun r => qz_ok 10 r.1 r.2))) = true := by decide +kernel
set_option maxRecDepth 100000 in
theorem ok_11 : (tb_11.all (fun q => q.2.all (fun r => qz_ok 11 r.1 r.2))) = true := by decide +kernel
set_option maxRecDepth 100000 in
theorem ok_12 : (tb_12.all (fun q => q.2.all (fun r => qz_ok 12 r.1 r.2))) = true := by decide +kernel
set_option maxRecDepth 100000 in
theorem ok_13 : (tb_13.all (fun q => q.2.all (fun r => qz_ok 13 r.1 r.2))) = true := by decide +kernel
set_option maxRecDepth 100000 in
theorem ok_14 : (tb_14.all (fun q => q.2.all (fun r => qz_ok 14 r.1 r.2))) = true := by decide +kernel
set_option maxRecDepth 100000 in
theorem ok_15 : (tb_15.all (fun q => q.2.all (fun r => qz_ok 15 r.1 r.2))) = true := by decide +kernel
set_option maxRecDepth 100000 in
theorem ok_16 : (tb_16.all (fun q => q.2.all (fun r => qz_ok 16 r.1 r.2))) = true := by decide +kernel
set_option maxRecDepth 100000 in
theorem ok_17 : (tb_17.all (fun q => q.2.all (fun r => qz_ok 17 r.1 r.2))) = true := by decide +kernel
set_option maxRecDepth 100000 in
theorem ok_18 : (tb_18.all (fun q => q.2.all (fun r => qz_ok 18 r.1 r.2))) = true := by decide +kernel
set_option maxRecDepth 100000 in
theorem ok_19 : (tb_19.all (fun q => q.2.all (fun r => qz_ok 19 r.1 r.2))) = true := by decide +kernel
set_option maxRecDepth 100000 in
theorem ok_20 : (tb_20.all (fun q => q.2.all (fun r => qz_ok 20 r.1 r.2))) = true := by decide +kernel
set_option maxRecDepth 100000 in
theorem ok_21 : (tb_21.all (fun q => q.2.all (fun r => qz_ok 21 r.1 r.2))) = true := by decide +kernel
set_option maxRecDepth 100000 in
theorem ok_22 : (tb_22.all (fun q => q.2.all (fun r => qz_ok 22 r.1 r.2))) = true := by decide +kernel
set_option maxRecDepth 100000 in
theorem ok_23 : (tb_23.all (fun q => q.2.all (fun r => qz_ok 23 r.1 r.2))) = true := by decide +kernel
set_option maxRecDepth 100000 in
theorem ok_24 : (tb_24.all (fun q => q.2.all (fun r => qz_ok 24 r.1 r.2))) = true := by decide +kernel
set_option maxRecDepth 100000 in
theorem ok_25 : (tb_25.all (fun q => q.2.all (fun r => qz_ok 25 r.1 r.2))) = true := by decide +kernel
set_option maxRecDepth 100000 in
theorem ok_26 : (tb_26.all (fun q => q.2.all (fun r => qz_ok 26 r.1 r.2))) = true := by decide +kernel
set_option maxRecDepth 100000 in
theorem ok_27 : (tb_27.all (fun q => q.2.all (fun r => qz_ok 27 r.1 r.2))) = true := by decide +kernel
set_option maxRecDepth 100000 in
theorem ok_28 : (tb_28.all (fun q => q.2.all (fun r => qz_ok 28 r.1 r.2))) = true := by decide +kernel
set_option maxRecDepth 100000 in
theorem ok_29 : (tb_29.all (fun q => q.2.all (fun r => qz_ok 29 r.1 r.2))) = true := by decide +kernel
set_option maxRecDepth 100000 in
theorem ok_30 : (tb_30.all (fun q => q.2.all (fun r => qz_ok 30 r.1 r.2))) = true := by decide +kernel
set_option maxRecDepth 100000 in
theorem ok_31 : (tb_31.all (fun q => q.2.all (fun r => qz_ok 31 r.1 r.2))) = true := by decide +kernel
set_option maxRecDepth 100000 in
theorem ok_32 : (tb_32.all (fun q => q.2.all (fun r => qz_ok 32 r.1 r.2))) = true := by decide +kernel
set_option maxRecDepth 100000 in
theorem ok_33 : (tb_33.all (fun q => q.2.all (fun r => qz_ok 33 r.1 r.2))) = true := by decide +kernel
set_option maxRecDepth 100000 in
theorem ok_34 : (tb_34.all (fun q => q.2.all (fun r => qz_ok 34 r.1 r.2))) = true := by decide +kernel
set_option maxRecDepth 100000 in
theorem ok_35 : (tb_35.all (fun q => q.2.all (fun r => qz_ok 35 r.1 r.2))) = true := by decide +kernel
set_option maxRecDepth 100000 in
theorem ok_36 : (tb_36.all (fun q => q.2.all (fun r => qz_ok 36 r.1 r.2))) = true := by decide +kernel
set_option maxRecDepth 100000 in
theorem ok_37 : (tb_37.all (fun q => q.2.all (fun r => qz_ok 37 r.1 r.2))) = true := by decide +kernel
set_option maxRecDepth 100000 in
theorem ok_38 : (tb_38.all (fun q => q.2.all (fun r => qz_ok 38 r.1 r.2))) = true := by decide +kernel
set_option maxRecDepth 100000 in
theorem ok_39 : (tb_39.all (fun q => q.2.all (fun r => qz_ok 39 r.1 r.2))) = true := by decide +kernel
set_option maxRecDepth 100000 in
theorem ok_40 : (tb_40.all (fun q => q.2.all (fun r => qz_ok 40 r.1 r.2))) = true := by decide +kernel
set_option maxRecDepth 100000 in
theorem ok_41 : (tb_41.all (fun q => q.2.all (fun r => qz_ok 41 r.1 r.2))) = true := by decide +kernel
set_option maxRecDepth 100000 in
theorem ok_42 : (tb_42.all (fun q => q.2.all (fun r => qz_ok 42 r.1 r.2))) = true := by decide +kernel
set_option maxRecDepth 100000 in
theorem ok_43 : (tb_43.all (fun q => q.2.all (fun r => qz_ok 43 r.1 r.2))) = true := by decide +kernel
set_option maxRecDepth 100000 in
theorem ok_44 : (tb_44.all (fun q => q.2.all (fun r => qz_ok 44 r.1 r.2))) = true := by decide +kernel
set_option maxRecDepth 100000 in
theorem ok_45 : (tb_45.all (fun q => q.2.all (fun r => qz_ok 45 r.1 r.2))) = true := by decide +kernel
set_option maxRecDepth 100000 in
theorem ok_46 : (tb_46.all (fun q => q.2.all (fun r => qz_ok 46 r.1 r.2))) = true := by decide +kernel
set_option maxRecDepth 100000 in
theorem ok_47 : (tb_47.all (fun q => q.2.all (fun r => qz_ok 47 r.1 r.2))) = true := by decide +kernel
set_option maxRecDepth 100000 in
theorem ok_48 : (tb_48.all (fun q => q.2.all (fun r => qz_ok 48 r.1 r.2))) = true := by decide +kernel
set_option maxRecDepth 100000 in
theorem ok_49 : (tb_49.all (fun q => q.2.all (fun r => qz_ok 49 r.1 r.2))) = true := by decide +kernel
set_option maxRecDepth 100000 in
theorem ok_50 : (tb_50.all (fun q => q.2.all (fun r => qz_ok 50 r.1 r.2))) = true := by decide +kernel
set_option maxRecDepth 100000 in
theorem ok_51 : (tb_51.all (fun q => q.2.all (fun r => qz_ok 51 r.1 r.2))) = true := by decide +kernel
set_option maxRecDepth 100000 in
theorem ok_52 : (tb_52.all (fun q => q.2.all (fun r => qz_ok 52 r.1 r.2))) = true := by decide +kernel
set_option maxRecDepth 100000 in
theorem ok_53 : (tb_53.all (fun q => q.2.all (fun r => qz_ok 53 r.1 r.2))) = true := by decide +kernel
set_option maxRecDepth 100000 in
theorem ok_54 : (tb_54.all (fun q => q.2.all (fun r => qz_ok 54 r.1 r.2))) = true := by decide +kernel
set_option maxRecDepth 100000 in
theorem ok_55 : (tb_55.all (fun q => q.2.all (fun r => qz_ok 55 r.1 r.2))) = true := by decide +kernel
set_option maxRecDepth 100000 in
theorem ok_56 : (tb_56.all (fun q => q.2.all (fun r => qz_ok 56 r.1 r.2))) = true := by decide +kernel
set_option maxRecDepth 100000 in
theorem ok_57 : (tb_57.all (fun q => q.2.all (fun r => qz_ok 57 r.1 r.2))) = true := by decide +kernel
set_option maxRecDepth 100000 in
theorem ok_58 : (tb_58.all (fun q => q.2.all (fun r => qz_ok 58 r.1 r.2))) = true := by decide +kernel
set_option maxRecDepth 100000 in
theorem ok_59 : (tb_59.all (fun q => q.2.all (fun r => qz_ok 59 r.1 r.2))) = true := by decide +kernel
set_option maxRecDepth 100000 in
theorem ok_60 : (tb_60.all (fun q => q.2.all (fun r => qz_ok 60 r.1 r.2))) = true := by decide +kernel
set_option maxRecDepth 100000 in
theorem ok_61 : (tb_61.all (fun q => q.2.all (fun r => qz_ok 61 r.1 r.2))) = true := by decide +kernel
set_option maxRecDepth 100000 in
theorem ok_62 : (tb_62.all (fun q => q.2.all (fun r => qz_ok 62 r.1 r.2))) = true := by decide +kernel
set_option maxRecDepth 100000 in
theorem ok_63 : (tb_63.all (fun q => q.2.all (fun r => qz_ok 63 r.1 r.2))) = true := by decide +kernel
set_option maxRecDepth 100000 in
theorem ok_64 : (tb_64.all (fun q => q.2.all (fun r => qz_ok 64 r.1 r.2))) = true := by decide +kernel
set_option maxRecDepth 100000 in
theorem ok_65 : (tb_65.all (fun q => q.2.all (fun r => qz_ok 65 r.1 r.2))) = true := by decide +kernel
set_option maxRecDepth 100000 in
theorem ok_66 : (tb_66.all (fun q => q.2.all (fun r => qz_ok 66 r.1 r.2))) = true := by decide +kernel
set_option maxRecDepth 100000 in
theorem ok_67 : (tb_67.all (fun q => q.2.all (fun r => qz_ok 67 r.1 r.2))) = true := by decide +kernel
set_option maxRecDepth 100000 in
theorem ok_68 : (tb_68.all (fun q => q.2.all (fun r => qz_ok 68 r.1 r.2))) = true := by decide +kernel
set_option maxRecDepth 100000 in
theorem ok_69 : (tb_69.all (fun q => q.2.all (fun r => qz_ok 69 r.1 r.2))) = true := by decide +kernel
set_option maxRecDepth 100000 in
theorem ok_70 : (tb_70.all (fun q => q.2.all (fun r => qz_ok 70 r.1 r.2))) = true := by decide +kernel
set_option maxRecDepth 100000 in
theorem ok_71 : (tb_71.all (fun q => q.2.all (fun r => qz_ok 71 r.1 r.2))) = true := by decide +kernel
set_option maxRecDepth 100000 in
theorem ok_72 : (tb_72.all (fun q => q.2.all (fun r => qz_ok 72 r.1 r.2))) = true := by decide +kernel
set_option maxRecDepth 100000 in
theorem ok_73 : (tb_73.all (fun q => q.2.all (fun r => qz_ok 73 r.1 r.2))) = true := by decide +kernel
set_option maxRecDepth 100000 in
theorem ok_74 : (tb_74.all (fun q => q.2.all (fun r => qz_ok 74 r.1 r.2))) = true := by decide +kernel
set_option maxRecDepth 100000 in
theorem ok_75 : (tb_75.all (fun q => q.2.all (fun r => qz_ok 75 r.1 r.2))) = true := by decide +kernel
