/-! the law's instructions, 1 -/
theorem kw_d_0 : decode code 0 = .ok (.new 7, 3) := by decide +kernel
theorem kw_d_3 : decode code 3 = .ok (.dup, 1) := by decide +kernel
theorem kw_d_4 : decode code 4 = .ok (.invokespecial 9, 3) := by decide +kernel
theorem kw_d_7 : decode code 7 = .ok (.astore_n 1, 1) := by decide +kernel
theorem kw_d_8 : decode code 8 = .ok (.new 10, 3) := by decide +kernel
theorem kw_d_11 : decode code 11 = .ok (.dup, 1) := by decide +kernel
theorem kw_d_12 : decode code 12 = .ok (.invokespecial 12, 3) := by decide +kernel
theorem kw_d_15 : decode code 15 = .ok (.astore_n 2, 1) := by decide +kernel
theorem kw_d_16 : decode code 16 = .ok (.iconst 0, 1) := by decide +kernel
theorem kw_d_17 : decode code 17 = .ok (.istore_n 3, 1) := by decide +kernel
theorem kw_d_18 : decode code 18 = .ok (.iload_n 3, 1) := by decide +kernel
theorem kw_d_19 : decode code 19 = .ok (.aload_n 0, 1) := by decide +kernel
theorem kw_d_20 : decode code 20 = .ok (.arraylength, 1) := by decide +kernel
theorem kw_d_21 : decode code 21 = .ok (.iconst 5, 1) := by decide +kernel
theorem kw_d_22 : decode code 22 = .ok (.isub, 1) := by decide +kernel
theorem kw_d_23 : decode code 23 = .ok (.if_icmp .gt 835, 3) := by decide +kernel
theorem kw_d_26 : decode code 26 = .ok (.aload_n 0, 1) := by decide +kernel
theorem kw_d_27 : decode code 27 = .ok (.iload_n 3, 1) := by decide +kernel
theorem kw_d_28 : decode code 28 = .ok (.iaload, 1) := by decide +kernel
theorem kw_d_29 : decode code 29 = .ok (.bipush 31, 2) := by decide +kernel
theorem kw_d_31 : decode code 31 = .ok (.iand, 1) := by decide +kernel
theorem kw_d_32 : decode code 32 = .ok (.tableswitch 820 0 19 #[96, 139, 192, 235, 268, 301, 324, 347, 396, 449, 492, 535, 568, 601, 634, 657, 670, 709, 758, 781], 96) := by decide +kernel
theorem kw_d_128 : decode code 128 = .ok (.aload_n 1, 1) := by decide +kernel
theorem kw_d_129 : decode code 129 = .ok (.aload_n 0, 1) := by decide +kernel
theorem kw_d_130 : decode code 130 = .ok (.iload_n 3, 1) := by decide +kernel
theorem kw_d_131 : decode code 131 = .ok (.iconst 1, 1) := by decide +kernel
theorem kw_d_132 : decode code 132 = .ok (.iadd, 1) := by decide +kernel
theorem kw_d_133 : decode code 133 = .ok (.iaload, 1) := by decide +kernel
theorem kw_d_134 : decode code 134 = .ok (.aload_n 0, 1) := by decide +kernel
theorem kw_d_135 : decode code 135 = .ok (.iload_n 3, 1) := by decide +kernel
theorem kw_d_136 : decode code 136 = .ok (.iconst 2, 1) := by decide +kernel
theorem kw_d_137 : decode code 137 = .ok (.iadd, 1) := by decide +kernel
theorem kw_d_138 : decode code 138 = .ok (.iaload, 1) := by decide +kernel
theorem kw_d_139 : decode code 139 = .ok (.aload_n 0, 1) := by decide +kernel
theorem kw_d_140 : decode code 140 = .ok (.iload_n 3, 1) := by decide +kernel
theorem kw_d_141 : decode code 141 = .ok (.iconst 3, 1) := by decide +kernel
theorem kw_d_142 : decode code 142 = .ok (.iadd, 1) := by decide +kernel
theorem kw_d_143 : decode code 143 = .ok (.iaload, 1) := by decide +kernel
theorem kw_d_144 : decode code 144 = .ok (.invokevirtual 13, 3) := by decide +kernel
theorem kw_d_147 : decode code 147 = .ok (.aload_n 2, 1) := by decide +kernel
theorem kw_d_148 : decode code 148 = .ok (.aload_n 0, 1) := by decide +kernel
theorem kw_d_149 : decode code 149 = .ok (.iload_n 3, 1) := by decide +kernel
theorem kw_d_150 : decode code 150 = .ok (.iconst 1, 1) := by decide +kernel
theorem kw_d_151 : decode code 151 = .ok (.iadd, 1) := by decide +kernel
theorem kw_d_152 : decode code 152 = .ok (.iaload, 1) := by decide +kernel
theorem kw_d_153 : decode code 153 = .ok (.aload_n 0, 1) := by decide +kernel
theorem kw_d_154 : decode code 154 = .ok (.iload_n 3, 1) := by decide +kernel
theorem kw_d_155 : decode code 155 = .ok (.iconst 2, 1) := by decide +kernel
theorem kw_d_156 : decode code 156 = .ok (.iadd, 1) := by decide +kernel
theorem kw_d_157 : decode code 157 = .ok (.iaload, 1) := by decide +kernel
theorem kw_d_158 : decode code 158 = .ok (.aload_n 0, 1) := by decide +kernel
theorem kw_d_159 : decode code 159 = .ok (.iload_n 3, 1) := by decide +kernel
theorem kw_d_160 : decode code 160 = .ok (.iconst 3, 1) := by decide +kernel
theorem kw_d_161 : decode code 161 = .ok (.iadd, 1) := by decide +kernel
theorem kw_d_162 : decode code 162 = .ok (.iaload, 1) := by decide +kernel
theorem kw_d_163 : decode code 163 = .ok (.invokevirtual 17, 3) := by decide +kernel
theorem kw_d_166 : decode code 166 = .ok (.if_icmp .eq 686, 3) := by decide +kernel
theorem kw_d_169 : decode code 169 = .ok (.iconst 0, 1) := by decide +kernel
theorem kw_d_170 : decode code 170 = .ok (.ireturn, 1) := by decide +kernel
theorem kw_d_171 : decode code 171 = .ok (.aload_n 1, 1) := by decide +kernel
theorem kw_d_172 : decode code 172 = .ok (.aload_n 0, 1) := by decide +kernel
theorem kw_d_173 : decode code 173 = .ok (.iload_n 3, 1) := by decide +kernel
theorem kw_d_174 : decode code 174 = .ok (.iconst 1, 1) := by decide +kernel
theorem kw_d_175 : decode code 175 = .ok (.iadd, 1) := by decide +kernel
theorem kw_d_176 : decode code 176 = .ok (.iaload, 1) := by decide +kernel
theorem kw_d_177 : decode code 177 = .ok (.aload_n 0, 1) := by decide +kernel
theorem kw_d_178 : decode code 178 = .ok (.iload_n 3, 1) := by decide +kernel
theorem kw_d_179 : decode code 179 = .ok (.iconst 2, 1) := by decide +kernel
theorem kw_d_180 : decode code 180 = .ok (.iadd, 1) := by decide +kernel
theorem kw_d_181 : decode code 181 = .ok (.iaload, 1) := by decide +kernel
theorem kw_d_182 : decode code 182 = .ok (.aload_n 0, 1) := by decide +kernel
theorem kw_d_183 : decode code 183 = .ok (.iload_n 3, 1) := by decide +kernel
theorem kw_d_184 : decode code 184 = .ok (.iconst 3, 1) := by decide +kernel
theorem kw_d_185 : decode code 185 = .ok (.iadd, 1) := by decide +kernel
theorem kw_d_186 : decode code 186 = .ok (.iaload, 1) := by decide +kernel
theorem kw_d_187 : decode code 187 = .ok (.aload_n 0, 1) := by decide +kernel
theorem kw_d_188 : decode code 188 = .ok (.iload_n 3, 1) := by decide +kernel
theorem kw_d_189 : decode code 189 = .ok (.iconst 4, 1) := by decide +kernel
theorem kw_d_190 : decode code 190 = .ok (.iadd, 1) := by decide +kernel
theorem kw_d_191 : decode code 191 = .ok (.iaload, 1) := by decide +kernel
theorem kw_d_192 : decode code 192 = .ok (.invokevirtual 18, 3) := by decide +kernel
theorem kw_d_195 : decode code 195 = .ok (.aload_n 2, 1) := by decide +kernel
theorem kw_d_196 : decode code 196 = .ok (.aload_n 0, 1) := by decide +kernel
theorem kw_d_197 : decode code 197 = .ok (.iload_n 3, 1) := by decide +kernel
theorem kw_d_198 : decode code 198 = .ok (.iconst 1, 1) := by decide +kernel
theorem kw_d_199 : decode code 199 = .ok (.iadd, 1) := by decide +kernel
theorem kw_d_200 : decode code 200 = .ok (.iaload, 1) := by decide +kernel
theorem kw_d_201 : decode code 201 = .ok (.aload_n 0, 1) := by decide +kernel
theorem kw_d_202 : decode code 202 = .ok (.iload_n 3, 1) := by decide +kernel
theorem kw_d_203 : decode code 203 = .ok (.iconst 2, 1) := by decide +kernel
theorem kw_d_204 : decode code 204 = .ok (.iadd, 1) := by decide +kernel
theorem kw_d_205 : decode code 205 = .ok (.iaload, 1) := by decide +kernel
theorem kw_d_206 : decode code 206 = .ok (.aload_n 0, 1) := by decide +kernel
theorem kw_d_207 : decode code 207 = .ok (.iload_n 3, 1) := by decide +kernel
theorem kw_d_208 : decode code 208 = .ok (.iconst 3, 1) := by decide +kernel
theorem kw_d_209 : decode code 209 = .ok (.iadd, 1) := by decide +kernel
theorem kw_d_210 : decode code 210 = .ok (.iaload, 1) := by decide +kernel
theorem kw_d_211 : decode code 211 = .ok (.aload_n 0, 1) := by decide +kernel
theorem kw_d_212 : decode code 212 = .ok (.iload_n 3, 1) := by decide +kernel
theorem kw_d_213 : decode code 213 = .ok (.iconst 4, 1) := by decide +kernel
theorem kw_d_214 : decode code 214 = .ok (.iadd, 1) := by decide +kernel
theorem kw_d_215 : decode code 215 = .ok (.iaload, 1) := by decide +kernel
theorem kw_d_216 : decode code 216 = .ok (.invokevirtual 22, 3) := by decide +kernel
theorem kw_d_219 : decode code 219 = .ok (.if_icmp .eq 633, 3) := by decide +kernel
theorem kw_d_222 : decode code 222 = .ok (.iconst 0, 1) := by decide +kernel
theorem kw_d_223 : decode code 223 = .ok (.ireturn, 1) := by decide +kernel
theorem kw_d_224 : decode code 224 = .ok (.aload_n 1, 1) := by decide +kernel
theorem kw_d_225 : decode code 225 = .ok (.aload_n 0, 1) := by decide +kernel
theorem kw_d_226 : decode code 226 = .ok (.iload_n 3, 1) := by decide +kernel
theorem kw_d_227 : decode code 227 = .ok (.iconst 1, 1) := by decide +kernel
theorem kw_d_228 : decode code 228 = .ok (.iadd, 1) := by decide +kernel
theorem kw_d_229 : decode code 229 = .ok (.iaload, 1) := by decide +kernel
theorem kw_d_230 : decode code 230 = .ok (.aload_n 0, 1) := by decide +kernel
theorem kw_d_231 : decode code 231 = .ok (.iload_n 3, 1) := by decide +kernel
theorem kw_d_232 : decode code 232 = .ok (.iconst 2, 1) := by decide +kernel
theorem kw_d_233 : decode code 233 = .ok (.iadd, 1) := by decide +kernel
theorem kw_d_234 : decode code 234 = .ok (.iaload, 1) := by decide +kernel
theorem kw_d_235 : decode code 235 = .ok (.aload_n 0, 1) := by decide +kernel
theorem kw_d_236 : decode code 236 = .ok (.iload_n 3, 1) := by decide +kernel
theorem kw_d_237 : decode code 237 = .ok (.iconst 3, 1) := by decide +kernel
theorem kw_d_238 : decode code 238 = .ok (.iadd, 1) := by decide +kernel
theorem kw_d_239 : decode code 239 = .ok (.iaload, 1) := by decide +kernel
theorem kw_d_240 : decode code 240 = .ok (.invokevirtual 23, 3) := by decide +kernel
theorem kw_d_243 : decode code 243 = .ok (.aload_n 2, 1) := by decide +kernel
theorem kw_d_244 : decode code 244 = .ok (.aload_n 0, 1) := by decide +kernel
theorem kw_d_245 : decode code 245 = .ok (.iload_n 3, 1) := by decide +kernel
theorem kw_d_246 : decode code 246 = .ok (.iconst 1, 1) := by decide +kernel
theorem kw_d_247 : decode code 247 = .ok (.iadd, 1) := by decide +kernel
theorem kw_d_248 : decode code 248 = .ok (.iaload, 1) := by decide +kernel
theorem kw_d_249 : decode code 249 = .ok (.aload_n 0, 1) := by decide +kernel
theorem kw_d_250 : decode code 250 = .ok (.iload_n 3, 1) := by decide +kernel
theorem kw_d_251 : decode code 251 = .ok (.iconst 2, 1) := by decide +kernel
theorem kw_d_252 : decode code 252 = .ok (.iadd, 1) := by decide +kernel
theorem kw_d_253 : decode code 253 = .ok (.iaload, 1) := by decide +kernel
theorem kw_d_254 : decode code 254 = .ok (.aload_n 0, 1) := by decide +kernel
theorem kw_d_255 : decode code 255 = .ok (.iload_n 3, 1) := by decide +kernel
theorem kw_d_256 : decode code 256 = .ok (.iconst 3, 1) := by decide +kernel
theorem kw_d_257 : decode code 257 = .ok (.iadd, 1) := by decide +kernel
theorem kw_d_258 : decode code 258 = .ok (.iaload, 1) := by decide +kernel
theorem kw_d_259 : decode code 259 = .ok (.invokevirtual 27, 3) := by decide +kernel
theorem kw_d_262 : decode code 262 = .ok (.if_icmp .eq 590, 3) := by decide +kernel
theorem kw_d_265 : decode code 265 = .ok (.iconst 0, 1) := by decide +kernel
theorem kw_d_266 : decode code 266 = .ok (.ireturn, 1) := by decide +kernel
theorem kw_d_267 : decode code 267 = .ok (.aload_n 1, 1) := by decide +kernel
theorem kw_d_268 : decode code 268 = .ok (.aload_n 0, 1) := by decide +kernel
theorem kw_d_269 : decode code 269 = .ok (.iload_n 3, 1) := by decide +kernel
theorem kw_d_270 : decode code 270 = .ok (.iconst 1, 1) := by decide +kernel
theorem kw_d_271 : decode code 271 = .ok (.iadd, 1) := by decide +kernel
theorem kw_d_272 : decode code 272 = .ok (.iaload, 1) := by decide +kernel
theorem kw_d_273 : decode code 273 = .ok (.aload_n 0, 1) := by decide +kernel
