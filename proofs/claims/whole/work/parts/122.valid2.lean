set_option maxRecDepth 100000 in
theorem ok_141 : (tb_141.all (fun q => q.2.all (fun r => qz_ok 141 r.1 r.2))) = true := by decide +kernel
set_option maxRecDepth 100000 in
theorem ok_142 : (tb_142.all (fun q => q.2.all (fun r => qz_ok 142 r.1 r.2))) = true := by decide +kernel
set_option maxRecDepth 100000 in
theorem ok_143 : (tb_143.all (fun q => q.2.all (fun r => qz_ok 143 r.1 r.2))) = true := by decide +kernel
set_option maxRecDepth 100000 in
theorem ok_144 : (tb_144.all (fun q => q.2.all (fun r => qz_ok 144 r.1 r.2))) = true := by decide +kernel
set_option maxRecDepth 100000 in
theorem ok_145 : (tb_145.all (fun q => q.2.all (fun r => qz_ok 145 r.1 r.2))) = true := by decide +kernel
set_option maxRecDepth 100000 in
theorem ok_146 : (tb_146.all (fun q => q.2.all (fun r => qz_ok 146 r.1 r.2))) = true := by decide +kernel
set_option maxRecDepth 100000 in
theorem ok_147 : (tb_147.all (fun q => q.2.all (fun r => qz_ok 147 r.1 r.2))) = true := by decide +kernel
set_option maxRecDepth 100000 in
theorem ok_148 : (tb_148.all (fun q => q.2.all (fun r => qz_ok 148 r.1 r.2))) = true := by decide +kernel
set_option maxRecDepth 100000 in
theorem ok_149 : (tb_149.all (fun q => q.2.all (fun r => qz_ok 149 r.1 r.2))) = true := by decide +kernel
set_option maxRecDepth 100000 in
theorem ok_150 : (tb_150.all (fun q => q.2.all (fun r => qz_ok 150 r.1 r.2))) = true := by decide +kernel
set_option maxRecDepth 100000 in
theorem ok_151 : (tb_151.all (fun q => q.2.all (fun r => qz_ok 151 r.1 r.2))) = true := by decide +kernel
set_option maxRecDepth 100000 in
theorem ok_152 : (tb_152.all (fun q => q.2.all (fun r => qz_ok 152 r.1 r.2))) = true := by decide +kernel
set_option maxRecDepth 100000 in
theorem ok_153 : (tb_153.all (fun q => q.2.all (fun r => qz_ok 153 r.1 r.2))) = true := by decide +kernel
set_option maxRecDepth 100000 in
theorem ok_154 : (tb_154.all (fun q => q.2.all (fun r => qz_ok 154 r.1 r.2))) = true := by decide +kernel
set_option maxRecDepth 100000 in
theorem ok_155 : (tb_155.all (fun q => q.2.all (fun r => qz_ok 155 r.1 r.2))) = true := by decide +kernel
set_option maxRecDepth 100000 in
theorem ok_156 : (tb_156.all (fun q => q.2.all (fun r => qz_ok 156 r.1 r.2))) = true := by decide +kernel
set_option maxRecDepth 100000 in
theorem ok_157 : (tb_157.all (fun q => q.2.all (fun r => qz_ok 157 r.1 r.2))) = true := by decide +kernel
set_option maxRecDepth 100000 in
theorem ok_158 : (tb_158.all (fun q => q.2.all (fun r => qz_ok 158 r.1 r.2))) = true := by decide +kernel
set_option maxRecDepth 100000 in
theorem ok_159 : (tb_159.all (fun q => q.2.all (fun r => qz_ok 159 r.1 r.2))) = true := by decide +kernel
set_option maxRecDepth 100000 in
theorem ok_160 : (tb_160.all (fun q => q.2.all (fun r => qz_ok 160 r.1 r.2))) = true := by decide +kernel
set_option maxRecDepth 100000 in
theorem ok_161 : (tb_161.all (fun q => q.2.all (fun r => qz_ok 161 r.1 r.2))) = true := by decide +kernel
set_option maxRecDepth 100000 in
theorem ok_162 : (tb_162.all (fun q => q.2.all (fun r => qz_ok 162 r.1 r.2))) = true := by decide +kernel
set_option maxRecDepth 100000 in
theorem ok_163 : (tb_163.all (fun q => q.2.all (fun r => qz_ok 163 r.1 r.2))) = true := by decide +kernel
set_option maxRecDepth 100000 in
theorem ok_164 : (tb_164.all (fun q => q.2.all (fun r => qz_ok 164 r.1 r.2))) = true := by decide +kernel
set_option maxRecDepth 100000 in
theorem ok_165 : (tb_165.all (fun q => q.2.all (fun r => qz_ok 165 r.1 r.2))) = true := by decide +kernel
set_option maxRecDepth 100000 in
theorem ok_166 : (tb_166.all (fun q => q.2.all (fun r => qz_ok 166 r.1 r.2))) = true := by decide +kernel
set_option maxRecDepth 100000 in
theorem ok_167 : (tb_167.all (fun q => q.2.all (fun r => qz_ok 167 r.1 r.2))) = true := by decide +kernel
set_option maxRecDepth 100000 in
theorem ok_168 : (tb_168.all (fun q => q.2.all (fun r => qz_ok 168 r.1 r.2))) = true := by decide +kernel
set_option maxRecDepth 100000 in
theorem ok_169 : (tb_169.all (fun q => q.2.all (fun r => qz_ok 169 r.1 r.2))) = true := by decide +kernel
set_option maxRecDepth 100000 in
theorem ok_170 : (tb_170.all (fun q => q.2.all (fun r => qz_ok 170 r.1 r.2))) = true := by decide +kernel
set_option maxRecDepth 100000 in
theorem ok_171 : (tb_171.all (fun q => q.2.all (fun r => qz_ok 171 r.1 r.2))) = true := by decide +kernel
set_option maxRecDepth 100000 in
theorem ok_172 : (tb_172.all (fun q => q.2.all (fun r => qz_ok 172 r.1 r.2))) = true := by decide +kernel
set_option maxRecDepth 100000 in
theorem ok_173 : (tb_173.all (fun q => q.2.all (fun r => qz_ok 173 r.1 r.2))) = true := by decide +kernel
set_option maxRecDepth 100000 in
theorem ok_174 : (tb_174.all (fun q => q.2.all (fun r => qz_ok 174 r.1 r.2))) = true := by decide +kernel
set_option maxRecDepth 100000 in
theorem ok_175 : (tb_175.all (fun q => q.2.all (fun r => qz_ok 175 r.1 r.2))) = true := by decide +kernel
set_option maxRecDepth 100000 in
theorem ok_176 : (tb_176.all (fun q => q.2.all (fun r => qz_ok 176 r.1 r.2))) = true := by decide +kernel
set_option maxRecDepth 100000 in
theorem ok_177 : (tb_177.all (fun q => q.2.all (fun r => qz_ok 177 r.1 r.2))) = true := by decide +kernel
set_option maxRecDepth 100000 in
theorem ok_178 : (tb_178.all (fun q => q.2.all (fun r => qz_ok 178 r.1 r.2))) = true := by decide +kernel
set_option maxRecDepth 100000 in
theorem ok_179 : (tb_179.all (fun q => q.2.all (fun r => qz_ok 179 r.1 r.2))) = true := by decide +kernel
set_option maxRecDepth 100000 in
theorem ok_180 : (tb_180.all (fun q => q.2.all (fun r => qz_ok 180 r.1 r.2))) = true := by decide +kernel
set_option maxRecDepth 100000 in
theorem ok_181 : (tb_181.all (fun q => q.2.all (fun r => qz_ok 181 r.1 r.2))) = true := by decide +kernel
set_option maxRecDepth 100000 in
theorem ok_182 : (tb_182.all (fun q => q.2.all (fun r => qz_ok 182 r.1 r.2))) = true := by decide +kernel
set_option maxRecDepth 100000 in
theorem ok_183 : (tb_183.all (fun q => q.2.all (fun r => qz_ok 183 r.1 r.2))) = true := by decide +kernel
set_option maxRecDepth 100000 in
theorem ok_184 : (tb_184.all (fun q => q.2.all (fun r => qz_ok 184 r.1 r.2))) = true := by decide +kernel
set_option maxRecDepth 100000 in
theorem ok_185 : (tb_185.all (fun q => q.2.all (fun r => qz_ok 185 r.1 r.2))) = true := by decide +kernel
set_option maxRecDepth 100000 in
theorem ok_186 : (tb_186.all (fun q => q.2.all (fun r => qz_ok 186 r.1 r.2))) = true := by decide +kernel
set_option maxRecDepth 100000 in
theorem ok_187 : (tb_187.all (fun q => q.2.all (fun r => qz_ok 187 r.1 r.2))) = true := by decide +kernel
set_option maxRecDepth 100000 in
theorem ok_188 : (tb_188.all (fun q => q.2.all (fun r => qz_ok 188 r.1 r.2))) = true := by decide +kernel
set_option maxRecDepth 100000 in
theorem ok_189 : (tb_189.all (fun q => q.2.all (fun r => qz_ok 189 r.1 r.2))) = true := by decide +kernel
set_option maxRecDepth 100000 in
theorem ok_190 : (tb_190.all (fun q => q.2.all (fun r => qz_ok 190 r.1 r.2))) = true := by decide +kernel
set_option maxRecDepth 100000 in
theorem ok_191 : (tb_191.all (fun q => q.2.all (fun r => qz_ok 191 r.1 r.2))) = true := by decide +kernel
set_option maxRecDepth 100000 in
theorem ok_192 : (tb_192.all (fun q => q.2.all (fun r => qz_ok 192 r.1 r.2))) = true := by decide +kernel
set_option maxRecDepth 100000 in
theorem ok_193 : (tb_193.all (fun q => q.2.all (fun r => qz_ok 193 r.1 r.2))) = true := by decide +kernel
set_option maxRecDepth 100000 in
theorem ok_194 : (tb_194.all (fun q => q.2.all (fun r => qz_ok 194 r.1 r.2))) = true := by decide +kernel
set_option maxRecDepth 100000 in
theorem ok_195 : (tb_195.all (fun q => q.2.all (fun r => qz_ok 195 r.1 r.2))) = true := by decide +kernel
set_option maxRecDepth 100000 in
theorem ok_196 : (tb_196.all (fun q => q.2.all (fun r => qz_ok 196 r.1 r.2))) = true := by decide +kernel
set_option maxRecDepth 100000 in
theorem ok_197 : (tb_197.all (fun q => q.2.all (fun r => qz_ok 197 r.1 r.2))) = true := by decide +kernel
set_option maxRecDepth 100000 in
theorem ok_198 : (tb_198.all (fun q => q.2.all (fun r => qz_ok 198 r.1 r.2))) = true := by decide +kernel
set_option maxRecDepth 100000 in
theorem ok_199 : (tb_199.all (fun q => q.2.all (fun r => qz_ok 199 r.1 r.2))) = true := by decide +kernel
set_option maxRecDepth 100000 in
theorem ok_200 : (tb_200.all (fun q => q.2.all (fun r => qz_ok 200 r.1 r.2))) = true := by decide +kernel
set_option maxRecDepth 100000 in
theorem ok_201 : (tb_201.all (fun q => q.2.all (fun r => qz_ok 201 r.1 r.2))) = true := by decide +kernel
