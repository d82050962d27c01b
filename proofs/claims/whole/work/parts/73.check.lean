set_option maxRecDepth 100000 in
theorem oa_141 : okAll 141 = true := by decide +kernel
set_option maxRecDepth 100000 in
theorem om_141 : okM 141 = true := by decide +kernel
set_option maxRecDepth 100000 in
theorem oa_142 : okAll 142 = true := by decide +kernel
set_option maxRecDepth 100000 in
theorem om_142 : okM 142 = true := by decide +kernel
set_option maxRecDepth 100000 in
theorem oa_143 : okAll 143 = true := by decide +kernel
set_option maxRecDepth 100000 in
theorem om_143 : okM 143 = true := by decide +kernel
set_option maxRecDepth 100000 in
theorem oa_144 : okAll 144 = true := by decide +kernel
set_option maxRecDepth 100000 in
theorem om_144 : okM 144 = true := by decide +kernel
set_option maxRecDepth 100000 in
theorem oa_145 : okAll 145 = true := by decide +kernel
set_option maxRecDepth 100000 in
theorem om_145 : okM 145 = true := by decide +kernel
set_option maxRecDepth 100000 in
theorem oa_146 : okAll 146 = true := by decide +kernel
set_option maxRecDepth 100000 in
theorem om_146 : okM 146 = true := by decide +kernel
set_option maxRecDepth 100000 in
theorem oa_147 : okAll 147 = true := by decide +kernel
set_option maxRecDepth 100000 in
theorem om_147 : okM 147 = true := by decide +kernel
set_option maxRecDepth 100000 in
theorem oa_148 : okAll 148 = true := by decide +kernel
set_option maxRecDepth 100000 in
theorem om_148 : okM 148 = true := by decide +kernel
set_option maxRecDepth 100000 in
theorem oa_149 : okAll 149 = true := by decide +kernel
set_option maxRecDepth 100000 in
theorem om_149 : okM 149 = true := by decide +kernel
set_option maxRecDepth 100000 in
theorem oa_150 : okAll 150 = true := by decide +kernel
set_option maxRecDepth 100000 in
theorem om_150 : okM 150 = true := by decide +kernel
set_option maxRecDepth 100000 in
theorem oa_151 : okAll 151 = true := by decide +kernel
set_option maxRecDepth 100000 in
theorem om_151 : okM 151 = true := by decide +kernel
set_option maxRecDepth 100000 in
theorem oa_152 : okAll 152 = true := by decide +kernel
set_option maxRecDepth 100000 in
theorem om_152 : okM 152 = true := by decide +kernel
set_option maxRecDepth 100000 in
theorem oa_153 : okAll 153 = true := by decide +kernel
set_option maxRecDepth 100000 in
theorem om_153 : okM 153 = true := by decide +kernel
set_option maxRecDepth 100000 in
theorem oa_154 : okAll 154 = true := by decide +kernel
set_option maxRecDepth 100000 in
theorem om_154 : okM 154 = true := by decide +kernel
set_option maxRecDepth 100000 in
theorem oa_155 : okAll 155 = true := by decide +kernel
set_option maxRecDepth 100000 in
theorem om_155 : okM 155 = true := by decide +kernel
set_option maxRecDepth 100000 in
theorem oa_156 : okAll 156 = true := by decide +kernel
set_option maxRecDepth 100000 in
theorem om_156 : okM 156 = true := by decide +kernel
set_option maxRecDepth 100000 in
theorem oa_157 : okAll 157 = true := by decide +kernel
set_option maxRecDepth 100000 in
theorem om_157 : okM 157 = true := by decide +kernel
set_option maxRecDepth 100000 in
theorem oa_158 : okAll 158 = true := by decide +kernel
set_option maxRecDepth 100000 in
theorem om_158 : okM 158 = true := by decide +kernel
set_option maxRecDepth 100000 in
theorem oa_159 : okAll 159 = true := by decide +kernel
set_option maxRecDepth 100000 in
theorem om_159 : okM 159 = true := by decide +kernel
set_option maxRecDepth 100000 in
theorem oa_160 : okAll 160 = true := by decide +kernel
set_option maxRecDepth 100000 in
theorem om_160 : okM 160 = true := by decide +kernel
set_option maxRecDepth 100000 in
theorem oa_161 : okAll 161 = true := by decide +kernel
set_option maxRecDepth 100000 in
theorem om_161 : okM 161 = true := by decide +kernel
set_option maxRecDepth 100000 in
theorem oa_162 : okAll 162 = true := by decide +kernel
set_option maxRecDepth 100000 in
theorem om_162 : okM 162 = true := by decide +kernel
set_option maxRecDepth 100000 in
theorem oa_163 : okAll 163 = true := by decide +kernel
set_option maxRecDepth 100000 in
theorem om_163 : okM 163 = true := by decide +kernel
set_option maxRecDepth 100000 in
theorem oa_164 : okAll 164 = true := by decide +kernel
set_option maxRecDepth 100000 in
theorem om_164 : okM 164 = true := by decide +kernel
set_option maxRecDepth 100000 in
theorem oa_165 : okAll 165 = true := by decide +kernel
set_option maxRecDepth 100000 in
theorem om_165 : okM 165 = true := by decide +kernel
set_option maxRecDepth 100000 in
theorem oa_166 : okAll 166 = true := by decide +kernel
set_option maxRecDepth 100000 in
theorem om_166 : okM 166 = true := by decide +kernel
set_option maxRecDepth 100000 in
theorem oa_167 : okAll 167 = true := by decide +kernel
set_option maxRecDepth 100000 in
theorem om_167 : okM 167 = true := by decide +kernel
set_option maxRecDepth 100000 in
theorem oa_168 : okAll 168 = true := by decide +kernel
set_option maxRecDepth 100000 in
theorem om_168 : okM 168 = true := by decide +kernel
set_option maxRecDepth 100000 in
theorem oa_169 : okAll 169 = true := by decide +kernel
set_option maxRecDepth 100000 in
theorem om_169 : okM 169 = true := by decide +kernel
set_option maxRecDepth 100000 in
theorem oa_170 : okAll 170 = true := by decide +kernel
set_option maxRecDepth 100000 in
theorem om_170 : okM 170 = true := by decide +kernel
set_option maxRecDepth 100000 in
theorem oa_171 : okAll 171 = true := by decide +kernel
set_option maxRecDepth 100000 in
theorem om_171 : okM 171 = true := by decide +kernel
set_option maxRecDepth 100000 in
theorem oa_172 : okAll 172 = true := by decide +kernel
set_option maxRecDepth 100000 in
theorem om_172 : okM 172 = true := by decide +kernel
set_option maxRecDepth 100000 in
theorem oa_173 : okAll 173 = true := by decide +kernel
set_option maxRecDepth 100000 in
theorem om_173 : okM 173 = true := by decide +kernel
set_option maxRecDepth 100000 in
theorem oa_174 : okAll 174 = true := by decide +kernel
set_option maxRecDepth 100000 in
theorem om_174 : okM 174 = true := by decide +kernel
set_option maxRecDepth 100000 in
theorem oa_175 : okAll 175 = true := by decide +kernel
set_option maxRecDepth 100000 in
theorem om_175 : okM 175 = true := by decide +kernel
set_option maxRecDepth 100000 in
theorem oa_176 : okAll 176 = true := by decide +kernel
set_option maxRecDepth 100000 in
theorem om_176 : okM 176 = true := by decide +kernel
set_option maxRecDepth 100000 in
theorem oa_177 : okAll 177 = true := by decide +kernel
set_option maxRecDepth 100000 in
theorem om_177 : okM 177 = true := by decide +kernel
set_option maxRecDepth 100000 in
theorem oa_178 : okAll 178 = true := by decide +kernel
set_option maxRecDepth 100000 in
theorem om_178 : okM 178 = true := by decide +kernel
set_option maxRecDepth 100000 in
theorem oa_179 : okAll 179 = true := by decide +kernel
set_option maxRecDepth 100000 in
theorem om_179 : okM 179 = true := by decide +kernel
set_option maxRecDepth 100000 in
theorem oa_180 : okAll 180 = true := by decide +kernel
set_option maxRecDepth 100000 in
theorem om_180 : okM 180 = true := by decide +kernel
set_option maxRecDepth 100000 in
theorem oa_181 : okAll 181 = true := by decide +kernel
set_option maxRecDepth 100000 in
theorem om_181 : okM 181 = true := by decide +kernel
set_option maxRecDepth 100000 in
theorem oa_182 : okAll 182 = true := by decide +kernel
set_option maxRecDepth 100000 in
theorem om_182 : okM 182 = true := by decide +kernel
set_option maxRecDepth 100000 in
theorem oa_183 : okAll 183 = true := by decide +kernel
set_option maxRecDepth 100000 in
theorem om_183 : okM 183 = true := by decide +kernel
set_option maxRecDepth 100000 in
theorem oa_184 : okAll 184 = true := by decide +kernel
set_option maxRecDepth 100000 in
theorem om_184 : okM 184 = true := by decide +kernel
set_option maxRecDepth 100000 in
theorem oa_185 : okAll 185 = true := by decide +kernel
set_option maxRecDepth 100000 in
theorem om_185 : okM 185 = true := by decide +kernel
set_option maxRecDepth 100000 in
theorem oa_186 : okAll 186 = true := by decide +kernel
set_option maxRecDepth 100000 in
theorem om_186 : okM 186 = true := by decide +kernel
set_option maxRecDepth 100000 in
theorem oa_187 : okAll 187 = true := by decide +kernel
set_option maxRecDepth 100000 in
theorem om_187 : okM 187 = true := by decide +kernel
set_option maxRecDepth 100000 in
theorem oa_188 : okAll 188 = true := by decide +kernel
set_option maxRecDepth 100000 in
theorem om_188 : okM 188 = true := by decide +kernel
set_option maxRecDepth 100000 in
theorem oa_189 : okAll 189 = true := by decide +kernel
set_option maxRecDepth 100000 in
theorem om_189 : okM 189 = true := by decide +kernel
set_option maxRecDepth 100000 in
theorem oa_190 : okAll 190 = true := by decide +kernel
set_option maxRecDepth 100000 in
theorem om_190 : okM 190 = true := by decide +kernel
set_option maxRecDepth 100000 in
theorem oa_191 : okAll 191 = true := by decide +kernel
set_option maxRecDepth 100000 in
theorem om_191 : okM 191 = true := by decide +kernel
set_option maxRecDepth 100000 in
theorem oa_192 : okAll 192 = true := by decide +kernel
set_option maxRecDepth 100000 in
theorem om_192 : okM 192 = true := by decide +kernel
set_option maxRecDepth 100000 in
theorem oa_193 : okAll 193 = true := by decide +kernel
set_option maxRecDepth 100000 in
theorem om_193 : okM 193 = true := by decide +kernel
set_option maxRecDepth 100000 in
theorem oa_194 : okAll 194 = true := by decide +kernel
set_option maxRecDepth 100000 in
theorem om_194 : okM 194 = true := by decide +kernel
set_option maxRecDepth 100000 in
theorem oa_195 : okAll 195 = true := by decide +kernel
set_option maxRecDepth 100000 in
theorem om_195 : okM 195 = true := by decide +kernel
set_option maxRecDepth 100000 in
theorem oa_196 : okAll 196 = true := by decide +kernel
set_option maxRecDepth 100000 in
theorem om_196 : okM 196 = true := by decide +kernel
set_option maxRecDepth 100000 in
theorem oa_197 : okAll 197 = true := by decide +kernel
set_option maxRecDepth 100000 in
theorem om_197 : okM 197 = true := by decide +kernel
set_option maxRecDepth 100000 in
theorem oa_198 : okAll 198 = true := by decide +kernel
set_option maxRecDepth 100000 in
theorem om_198 : okM 198 = true := by decide +kernel
set_option maxRecDepth 100000 in
theorem oa_199 : okAll 199 = true := by decide +kernel
set_option maxRecDepth 100000 in
theorem om_199 : okM 199 = true := by decide +kernel
set_option maxRecDepth 100000 in
theorem oa_200 : okAll 200 = true := by decide +kernel
set_option maxRecDepth 100000 in
theorem om_200 : okM 200 = true := by decide +kernel
set_option maxRecDepth 100000 in
theorem oa_201 : okAll 201 = true := by decide +kernel
set_option maxRecDepth 100000 in
theorem om_201 : okM 201 = true := by decide +kernel
set_option maxRecDepth 100000 in
theorem oa_202 : okAll 202 = true := by decide +kernel
set_option maxRecDepth 100000 in
theorem om_202 : okM 202 = true := by decide +kernel
set_option maxRecDepth 100000 in
theorem oa_203 : okAll 203 = true := by decide +kernel
set_option maxRecDepth 100000 in
theorem om_203 : okM 203 = true := by decide +kernel
set_option maxRecDepth 100000 in
theorem oa_204 : okAll 204 = true := by decide +kernel
set_option maxRecDepth 100000 in
theorem om_204 : okM 204 = true := by decide +kernel
