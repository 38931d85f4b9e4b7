set_option maxRecDepth 100000 in
theorem ok_76 : (tb_76.all (fun q => q.2.all (fun r => qz_ok 76 r.1 r.2))) = true := by decide +kernel
set_option maxRecDepth 100000 in
theorem ok_77 : (tb_77.all (fun q => q.2.all (fun r => qz_ok 77 r.1 r.2))) = true := by decide +kernel
set_option maxRecDepth 100000 in
theorem ok_78 : (tb_78.all (fun q => q.2.all (fun r => qz_ok 78 r.1 r.2))) = true := by decide +kernel
set_option maxRecDepth 100000 in
theorem ok_79 : (tb_79.all (fun q => q.2.all (fun r => qz_ok 79 r.1 r.2))) = true := by decide +kernel
set_option maxRecDepth 100000 in
theorem ok_80 : (tb_80.all (fun q => q.2.all (fun r => qz_ok 80 r.1 r.2))) = true := by decide +kernel
set_option maxRecDepth 100000 in
theorem ok_81 : (tb_81.all (fun q => q.2.all (fun r => qz_ok 81 r.1 r.2))) = true := by decide +kernel
set_option maxRecDepth 100000 in
theorem ok_82 : (tb_82.all (fun q => q.2.all (fun r => qz_ok 82 r.1 r.2))) = true := by decide +kernel
set_option maxRecDepth 100000 in
theorem ok_83 : (tb_83.all (fun q => q.2.all (fun r => qz_ok 83 r.1 r.2))) = true := by decide +kernel
set_option maxRecDepth 100000 in
theorem ok_84 : (tb_84.all (fun q => q.2.all (fun r => qz_ok 84 r.1 r.2))) = true := by decide +kernel
set_option maxRecDepth 100000 in
theorem ok_85 : (tb_85.all (fun q => q.2.all (fun r => qz_ok 85 r.1 r.2))) = true := by decide +kernel
set_option maxRecDepth 100000 in
theorem ok_86 : (tb_86.all (fun q => q.2.all (fun r => qz_ok 86 r.1 r.2))) = true := by decide +kernel
set_option maxRecDepth 100000 in
theorem ok_87 : (tb_87.all (fun q => q.2.all (fun r => qz_ok 87 r.1 r.2))) = true := by decide +kernel
set_option maxRecDepth 100000 in
theorem ok_88 : (tb_88.all (fun q => q.2.all (fun r => qz_ok 88 r.1 r.2))) = true := by decide +kernel
set_option maxRecDepth 100000 in
theorem ok_89 : (tb_89.all (fun q => q.2.all (fun r => qz_ok 89 r.1 r.2))) = true := by decide +kernel
set_option maxRecDepth 100000 in
theorem ok_90 : (tb_90.all (fun q => q.2.all (fun r => qz_ok 90 r.1 r.2))) = true := by decide +kernel
set_option maxRecDepth 100000 in
theorem ok_91 : (tb_91.all (fun q => q.2.all (fun r => qz_ok 91 r.1 r.2))) = true := by decide +kernel
set_option maxRecDepth 100000 in
theorem ok_92 : (tb_92.all (fun q => q.2.all (fun r => qz_ok 92 r.1 r.2))) = true := by decide +kernel
set_option maxRecDepth 100000 in
theorem ok_93 : (tb_93.all (fun q => q.2.all (fun r => qz_ok 93 r.1 r.2))) = true := by decide +kernel
set_option maxRecDepth 100000 in
theorem ok_94 : (tb_94.all (fun q => q.2.all (fun r => qz_ok 94 r.1 r.2))) = true := by decide +kernel
set_option maxRecDepth 100000 in
theorem ok_95 : (tb_95.all (fun q => q.2.all (fun r => qz_ok 95 r.1 r.2))) = true := by decide +kernel
set_option maxRecDepth 100000 in
theorem ok_96 : (tb_96.all (fun q => q.2.all (fun r => qz_ok 96 r.1 r.2))) = true := by decide +kernel
set_option maxRecDepth 100000 in
theorem ok_97 : (tb_97.all (fun q => q.2.all (fun r => qz_ok 97 r.1 r.2))) = true := by decide +kernel
set_option maxRecDepth 100000 in
theorem ok_98 : (tb_98.all (fun q => q.2.all (fun r => qz_ok 98 r.1 r.2))) = true := by decide +kernel
set_option maxRecDepth 100000 in
theorem ok_99 : (tb_99.all (fun q => q.2.all (fun r => qz_ok 99 r.1 r.2))) = true := by decide +kernel
set_option maxRecDepth 100000 in
theorem ok_100 : (tb_100.all (fun q => q.2.all (fun r => qz_ok 100 r.1 r.2))) = true := by decide +kernel
set_option maxRecDepth 100000 in
theorem ok_101 : (tb_101.all (fun q => q.2.all (fun r => qz_ok 101 r.1 r.2))) = true := by decide +kernel
set_option maxRecDepth 100000 in
theorem ok_102 : (tb_102.all (fun q => q.2.all (fun r => qz_ok 102 r.1 r.2))) = true := by decide +kernel
set_option maxRecDepth 100000 in
theorem ok_103 : (tb_103.all (fun q => q.2.all (fun r => qz_ok 103 r.1 r.2))) = true := by decide +kernel
set_option maxRecDepth 100000 in
theorem ok_104 : (tb_104.all (fun q => q.2.all (fun r => qz_ok 104 r.1 r.2))) = true := by decide +kernel
set_option maxRecDepth 100000 in
theorem ok_105 : (tb_105.all (fun q => q.2.all (fun r => qz_ok 105 r.1 r.2))) = true := by decide +kernel
set_option maxRecDepth 100000 in
theorem ok_106 : (tb_106.all (fun q => q.2.all (fun r => qz_ok 106 r.1 r.2))) = true := by decide +kernel
set_option maxRecDepth 100000 in
theorem ok_107 : (tb_107.all (fun q => q.2.all (fun r => qz_ok 107 r.1 r.2))) = true := by decide +kernel
set_option maxRecDepth 100000 in
theorem ok_108 : (tb_108.all (fun q => q.2.all (fun r => qz_ok 108 r.1 r.2))) = true := by decide +kernel
set_option maxRecDepth 100000 in
theorem ok_109 : (tb_109.all (fun q => q.2.all (fun r => qz_ok 109 r.1 r.2))) = true := by decide +kernel
set_option maxRecDepth 100000 in
theorem ok_110 : (tb_110.all (fun q => q.2.all (fun r => qz_ok 110 r.1 r.2))) = true := by decide +kernel
set_option maxRecDepth 100000 in
theorem ok_111 : (tb_111.all (fun q => q.2.all (fun r => qz_ok 111 r.1 r.2))) = true := by decide +kernel
set_option maxRecDepth 100000 in
theorem ok_112 : (tb_112.all (fun q => q.2.all (fun r => qz_ok 112 r.1 r.2))) = true := by decide +kernel
set_option maxRecDepth 100000 in
theorem ok_113 : (tb_113.all (fun q => q.2.all (fun r => qz_ok 113 r.1 r.2))) = true := by decide +kernel
set_option maxRecDepth 100000 in
theorem ok_114 : (tb_114.all (fun q => q.2.all (fun r => qz_ok 114 r.1 r.2))) = true := by decide +kernel
set_option maxRecDepth 100000 in
theorem ok_115 : (tb_115.all (fun q => q.2.all (fun r => qz_ok 115 r.1 r.2))) = true := by decide +kernel
set_option maxRecDepth 100000 in
theorem ok_116 : (tb_116.all (fun q => q.2.all (fun r => qz_ok 116 r.1 r.2))) = true := by decide +kernel
set_option maxRecDepth 100000 in
theorem ok_117 : (tb_117.all (fun q => q.2.all (fun r => qz_ok 117 r.1 r.2))) = true := by decide +kernel
set_option maxRecDepth 100000 in
theorem ok_118 : (tb_118.all (fun q => q.2.all (fun r => qz_ok 118 r.1 r.2))) = true := by decide +kernel
set_option maxRecDepth 100000 in
theorem ok_119 : (tb_119.all (fun q => q.2.all (fun r => qz_ok 119 r.1 r.2))) = true := by decide +kernel
set_option maxRecDepth 100000 in
theorem ok_120 : (tb_120.all (fun q => q.2.all (fun r => qz_ok 120 r.1 r.2))) = true := by decide +kernel
set_option maxRecDepth 100000 in
theorem ok_121 : (tb_121.all (fun q => q.2.all (fun r => qz_ok 121 r.1 r.2))) = true := by decide +kernel
set_option maxRecDepth 100000 in
theorem ok_122 : (tb_122.all (fun q => q.2.all (fun r => qz_ok 122 r.1 r.2))) = true := by decide +kernel
set_option maxRecDepth 100000 in
theorem ok_123 : (tb_123.all (fun q => q.2.all (fun r => qz_ok 123 r.1 r.2))) = true := by decide +kernel
set_option maxRecDepth 100000 in
theorem ok_124 : (tb_124.all (fun q => q.2.all (fun r => qz_ok 124 r.1 r.2))) = true := by decide +kernel
set_option maxRecDepth 100000 in
theorem ok_125 : (tb_125.all (fun q => q.2.all (fun r => qz_ok 125 r.1 r.2))) = true := by decide +kernel
set_option maxRecDepth 100000 in
theorem ok_126 : (tb_126.all (fun q => q.2.all (fun r => qz_ok 126 r.1 r.2))) = true := by decide +kernel
set_option maxRecDepth 100000 in
theorem ok_127 : (tb_127.all (fun q => q.2.all (fun r => qz_ok 127 r.1 r.2))) = true := by decide +kernel
set_option maxRecDepth 100000 in
theorem ok_128 : (tb_128.all (fun q => q.2.all (fun r => qz_ok 128 r.1 r.2))) = true := by decide +kernel
set_option maxRecDepth 100000 in
theorem ok_129 : (tb_129.all (fun q => q.2.all (fun r => qz_ok 129 r.1 r.2))) = true := by decide +kernel
set_option maxRecDepth 100000 in
theorem ok_130 : (tb_130.all (fun q => q.2.all (fun r => qz_ok 130 r.1 r.2))) = true := by decide +kernel
set_option maxRecDepth 100000 in
theorem ok_131 : (tb_131.all (fun q => q.2.all (fun r => qz_ok 131 r.1 r.2))) = true := by decide +kernel
set_option maxRecDepth 100000 in
theorem ok_132 : (tb_132.all (fun q => q.2.all (fun r => qz_ok 132 r.1 r.2))) = true := by decide +kernel
set_option maxRecDepth 100000 in
theorem ok_133 : (tb_133.all (fun q => q.2.all (fun r => qz_ok 133 r.1 r.2))) = true := by decide +kernel
set_option maxRecDepth 100000 in
theorem ok_134 : (tb_134.all (fun q => q.2.all (fun r => qz_ok 134 r.1 r.2))) = true := by decide +kernel
set_option maxRecDepth 100000 in
theorem ok_135 : (tb_135.all (fun q => q.2.all (fun r => qz_ok 135 r.1 r.2))) = true := by decide +kernel
set_option maxRecDepth 100000 in
theorem ok_136 : (tb_136.all (fun q => q.2.all (fun r => qz_ok 136 r.1 r.2))) = true := by decide +kernel
set_option maxRecDepth 100000 in
theorem ok_137 : (tb_137.all (fun q => q.2.all (fun r => qz_ok 137 r.1 r.2))) = true := by decide +kernel
set_option maxRecDepth 100000 in
theorem ok_138 : (tb_138.all (fun q => q.2.all (fun r => qz_ok 138 r.1 r.2))) = true := by decide +kernel
set_option maxRecDepth 100000 in
theorem ok_139 : (tb_139.all (fun q => q.2.all (fun r => qz_ok 139 r.1 r.2))) = true := by decide +kernel
set_option maxRecDepth 100000 in
theorem ok_140 : (tb_140.all (fun q => q.2.all (fun r => qz_ok 140 r.1 r.2))) = true := by decide +kernel
