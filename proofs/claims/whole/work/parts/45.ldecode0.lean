theorem d_L_law_0 : decode code 0 = .ok (.new 8, 3) := by decide +kernel
theorem d_L_law_3 : decode code 3 = .ok (.dup, 1) := by decide +kernel
theorem d_L_law_4 : decode code 4 = .ok (.aload_n 0, 1) := by decide +kernel
theorem d_L_law_5 : decode code 5 = .ok (.iconst 0, 1) := by decide +kernel
theorem d_L_law_6 : decode code 6 = .ok (.invokestatic 33, 3) := by decide +kernel
theorem d_L_law_9 : decode code 9 = .ok (.aload_n 0, 1) := by decide +kernel
theorem d_L_law_10 : decode code 10 = .ok (.iconst 1, 1) := by decide +kernel
theorem d_L_law_11 : decode code 11 = .ok (.invokestatic 33, 3) := by decide +kernel
theorem d_L_law_14 : decode code 14 = .ok (.aload_n 0, 1) := by decide +kernel
theorem d_L_law_15 : decode code 15 = .ok (.iconst 2, 1) := by decide +kernel
theorem d_L_law_16 : decode code 16 = .ok (.invokestatic 33, 3) := by decide +kernel
theorem d_L_law_19 : decode code 19 = .ok (.aload_n 0, 1) := by decide +kernel
theorem d_L_law_20 : decode code 20 = .ok (.iconst 3, 1) := by decide +kernel
theorem d_L_law_21 : decode code 21 = .ok (.invokestatic 33, 3) := by decide +kernel
theorem d_L_law_24 : decode code 24 = .ok (.invokespecial 39, 3) := by decide +kernel
theorem d_L_law_27 : decode code 27 = .ok (.astore_n 1, 1) := by decide +kernel
theorem d_L_law_28 : decode code 28 = .ok (.new 42, 3) := by decide +kernel
theorem d_L_law_31 : decode code 31 = .ok (.dup, 1) := by decide +kernel
theorem d_L_law_32 : decode code 32 = .ok (.aload_n 0, 1) := by decide +kernel
theorem d_L_law_33 : decode code 33 = .ok (.iconst 0, 1) := by decide +kernel
theorem d_L_law_34 : decode code 34 = .ok (.invokestatic 33, 3) := by decide +kernel
theorem d_L_law_37 : decode code 37 = .ok (.aload_n 0, 1) := by decide +kernel
theorem d_L_law_38 : decode code 38 = .ok (.iconst 1, 1) := by decide +kernel
theorem d_L_law_39 : decode code 39 = .ok (.invokestatic 33, 3) := by decide +kernel
theorem d_L_law_42 : decode code 42 = .ok (.aload_n 0, 1) := by decide +kernel
theorem d_L_law_43 : decode code 43 = .ok (.iconst 2, 1) := by decide +kernel
theorem d_L_law_44 : decode code 44 = .ok (.invokestatic 33, 3) := by decide +kernel
theorem d_L_law_47 : decode code 47 = .ok (.aload_n 0, 1) := by decide +kernel
theorem d_L_law_48 : decode code 48 = .ok (.iconst 3, 1) := by decide +kernel
theorem d_L_law_49 : decode code 49 = .ok (.invokestatic 33, 3) := by decide +kernel
theorem d_L_law_52 : decode code 52 = .ok (.invokespecial 44, 3) := by decide +kernel
theorem d_L_law_55 : decode code 55 = .ok (.astore_n 2, 1) := by decide +kernel
theorem d_L_law_56 : decode code 56 = .ok (.iconst 1, 1) := by decide +kernel
theorem d_L_law_57 : decode code 57 = .ok (.newarray .long, 2) := by decide +kernel
theorem d_L_law_59 : decode code 59 = .ok (.astore_n 3, 1) := by decide +kernel
theorem d_L_law_60 : decode code 60 = .ok (.iconst 4, 1) := by decide +kernel
theorem d_L_law_61 : decode code 61 = .ok (.istore 4, 2) := by decide +kernel
theorem d_L_law_63 : decode code 63 = .ok (.iload 4, 2) := by decide +kernel
theorem d_L_law_65 : decode code 65 = .ok (.aload_n 0, 1) := by decide +kernel
theorem d_L_law_66 : decode code 66 = .ok (.arraylength, 1) := by decide +kernel
theorem d_L_law_67 : decode code 67 = .ok (.iconst 4, 1) := by decide +kernel
theorem d_L_law_68 : decode code 68 = .ok (.isub, 1) := by decide +kernel
theorem d_L_law_69 : decode code 69 = .ok (.if_icmp .gt 659, 3) := by decide +kernel
theorem d_L_law_72 : decode code 72 = .ok (.aload_n 0, 1) := by decide +kernel
theorem d_L_law_73 : decode code 73 = .ok (.iload 4, 2) := by decide +kernel
theorem d_L_law_75 : decode code 75 = .ok (.iaload, 1) := by decide +kernel
theorem d_L_law_76 : decode code 76 = .ok (.bipush 15, 2) := by decide +kernel
theorem d_L_law_78 : decode code 78 = .ok (.iand, 1) := by decide +kernel
theorem d_L_law_79 : decode code 79 = .ok (.tableswitch 643 0 11 #[61, 141, 209, 246, 259, 327, 395, 420, 500, 525, 550, 618], 61) := by decide +kernel
theorem d_L_law_140 : decode code 140 = .ok (.aload_n 1, 1) := by decide +kernel
theorem d_L_law_141 : decode code 141 = .ok (.aload_n 0, 1) := by decide +kernel
theorem d_L_law_142 : decode code 142 = .ok (.iload 4, 2) := by decide +kernel
theorem d_L_law_144 : decode code 144 = .ok (.iconst 1, 1) := by decide +kernel
theorem d_L_law_145 : decode code 145 = .ok (.iadd, 1) := by decide +kernel
theorem d_L_law_146 : decode code 146 = .ok (.iaload, 1) := by decide +kernel
theorem d_L_law_147 : decode code 147 = .ok (.aload_n 0, 1) := by decide +kernel
theorem d_L_law_148 : decode code 148 = .ok (.iload 4, 2) := by decide +kernel
theorem d_L_law_150 : decode code 150 = .ok (.iconst 2, 1) := by decide +kernel
theorem d_L_law_151 : decode code 151 = .ok (.iadd, 1) := by decide +kernel
theorem d_L_law_152 : decode code 152 = .ok (.iaload, 1) := by decide +kernel
theorem d_L_law_153 : decode code 153 = .ok (.aload_n 0, 1) := by decide +kernel
theorem d_L_law_154 : decode code 154 = .ok (.iload 4, 2) := by decide +kernel
theorem d_L_law_156 : decode code 156 = .ok (.iconst 3, 1) := by decide +kernel
theorem d_L_law_157 : decode code 157 = .ok (.iadd, 1) := by decide +kernel
theorem d_L_law_158 : decode code 158 = .ok (.iaload, 1) := by decide +kernel
theorem d_L_law_159 : decode code 159 = .ok (.aload_n 3, 1) := by decide +kernel
theorem d_L_law_160 : decode code 160 = .ok (.invokestatic 45, 3) := by decide +kernel
theorem d_L_law_163 : decode code 163 = .ok (.istore 5, 2) := by decide +kernel
theorem d_L_law_165 : decode code 165 = .ok (.aload_n 2, 1) := by decide +kernel
theorem d_L_law_166 : decode code 166 = .ok (.aload_n 0, 1) := by decide +kernel
theorem d_L_law_167 : decode code 167 = .ok (.iload 4, 2) := by decide +kernel
theorem d_L_law_169 : decode code 169 = .ok (.iconst 1, 1) := by decide +kernel
theorem d_L_law_170 : decode code 170 = .ok (.iadd, 1) := by decide +kernel
theorem d_L_law_171 : decode code 171 = .ok (.iaload, 1) := by decide +kernel
theorem d_L_law_172 : decode code 172 = .ok (.aload_n 0, 1) := by decide +kernel
theorem d_L_law_173 : decode code 173 = .ok (.iload 4, 2) := by decide +kernel
theorem d_L_law_175 : decode code 175 = .ok (.iconst 2, 1) := by decide +kernel
theorem d_L_law_176 : decode code 176 = .ok (.iadd, 1) := by decide +kernel
theorem d_L_law_177 : decode code 177 = .ok (.iaload, 1) := by decide +kernel
theorem d_L_law_178 : decode code 178 = .ok (.aload_n 0, 1) := by decide +kernel
theorem d_L_law_179 : decode code 179 = .ok (.iload 4, 2) := by decide +kernel
theorem d_L_law_181 : decode code 181 = .ok (.iconst 3, 1) := by decide +kernel
theorem d_L_law_182 : decode code 182 = .ok (.iadd, 1) := by decide +kernel
theorem d_L_law_183 : decode code 183 = .ok (.iaload, 1) := by decide +kernel
theorem d_L_law_184 : decode code 184 = .ok (.invokevirtual 48, 3) := by decide +kernel
theorem d_L_law_187 : decode code 187 = .ok (.istore 6, 2) := by decide +kernel
theorem d_L_law_189 : decode code 189 = .ok (.aload_n 2, 1) := by decide +kernel
theorem d_L_law_190 : decode code 190 = .ok (.invokevirtual 49, 3) := by decide +kernel
theorem d_L_law_193 : decode code 193 = .ok (.iload 5, 2) := by decide +kernel
theorem d_L_law_195 : decode code 195 = .ok (.if_icmp .eq 5, 3) := by decide +kernel
theorem d_L_law_198 : decode code 198 = .ok (.iconst 0, 1) := by decide +kernel
theorem d_L_law_199 : decode code 199 = .ok (.ireturn, 1) := by decide +kernel
theorem d_L_law_200 : decode code 200 = .ok (.iload 5, 2) := by decide +kernel
theorem d_L_law_202 : decode code 202 = .ok (.ifCond .ne 15, 3) := by decide +kernel
theorem d_L_law_205 : decode code 205 = .ok (.aload_n 3, 1) := by decide +kernel
theorem d_L_law_206 : decode code 206 = .ok (.iconst 0, 1) := by decide +kernel
theorem d_L_law_207 : decode code 207 = .ok (.laload, 1) := by decide +kernel
theorem d_L_law_208 : decode code 208 = .ok (.iload 6, 2) := by decide +kernel
theorem d_L_law_210 : decode code 210 = .ok (.i2l, 1) := by decide +kernel
theorem d_L_law_211 : decode code 211 = .ok (.lcmp, 1) := by decide +kernel
theorem d_L_law_212 : decode code 212 = .ok (.ifCond .eq 5, 3) := by decide +kernel
theorem d_L_law_215 : decode code 215 = .ok (.iconst 0, 1) := by decide +kernel
theorem d_L_law_216 : decode code 216 = .ok (.ireturn, 1) := by decide +kernel
theorem d_L_law_217 : decode code 217 = .ok (.goto 505, 3) := by decide +kernel
theorem d_L_law_220 : decode code 220 = .ok (.aload_n 1, 1) := by decide +kernel
theorem d_L_law_221 : decode code 221 = .ok (.aload_n 0, 1) := by decide +kernel
theorem d_L_law_222 : decode code 222 = .ok (.iload 4, 2) := by decide +kernel
theorem d_L_law_224 : decode code 224 = .ok (.iconst 1, 1) := by decide +kernel
theorem d_L_law_225 : decode code 225 = .ok (.iadd, 1) := by decide +kernel
theorem d_L_law_226 : decode code 226 = .ok (.iaload, 1) := by decide +kernel
theorem d_L_law_227 : decode code 227 = .ok (.aload_n 0, 1) := by decide +kernel
theorem d_L_law_228 : decode code 228 = .ok (.iload 4, 2) := by decide +kernel
theorem d_L_law_230 : decode code 230 = .ok (.iconst 2, 1) := by decide +kernel
theorem d_L_law_231 : decode code 231 = .ok (.iadd, 1) := by decide +kernel
theorem d_L_law_232 : decode code 232 = .ok (.iaload, 1) := by decide +kernel
theorem d_L_law_233 : decode code 233 = .ok (.aload_n 3, 1) := by decide +kernel
theorem d_L_law_234 : decode code 234 = .ok (.invokestatic 53, 3) := by decide +kernel
theorem d_L_law_237 : decode code 237 = .ok (.istore 5, 2) := by decide +kernel
theorem d_L_law_239 : decode code 239 = .ok (.aload_n 2, 1) := by decide +kernel
theorem d_L_law_240 : decode code 240 = .ok (.aload_n 0, 1) := by decide +kernel
theorem d_L_law_241 : decode code 241 = .ok (.iload 4, 2) := by decide +kernel
theorem d_L_law_243 : decode code 243 = .ok (.iconst 1, 1) := by decide +kernel
theorem d_L_law_244 : decode code 244 = .ok (.iadd, 1) := by decide +kernel
theorem d_L_law_245 : decode code 245 = .ok (.iaload, 1) := by decide +kernel
theorem d_L_law_246 : decode code 246 = .ok (.aload_n 0, 1) := by decide +kernel
theorem d_L_law_247 : decode code 247 = .ok (.iload 4, 2) := by decide +kernel
theorem d_L_law_249 : decode code 249 = .ok (.iconst 2, 1) := by decide +kernel
theorem d_L_law_250 : decode code 250 = .ok (.iadd, 1) := by decide +kernel
theorem d_L_law_251 : decode code 251 = .ok (.iaload, 1) := by decide +kernel
theorem d_L_law_252 : decode code 252 = .ok (.invokevirtual 56, 3) := by decide +kernel
theorem d_L_law_255 : decode code 255 = .ok (.istore 6, 2) := by decide +kernel
theorem d_L_law_257 : decode code 257 = .ok (.aload_n 2, 1) := by decide +kernel
theorem d_L_law_258 : decode code 258 = .ok (.invokevirtual 49, 3) := by decide +kernel
theorem d_L_law_261 : decode code 261 = .ok (.iload 5, 2) := by decide +kernel
theorem d_L_law_263 : decode code 263 = .ok (.if_icmp .eq 5, 3) := by decide +kernel
theorem d_L_law_266 : decode code 266 = .ok (.iconst 0, 1) := by decide +kernel
theorem d_L_law_267 : decode code 267 = .ok (.ireturn, 1) := by decide +kernel
theorem d_L_law_268 : decode code 268 = .ok (.iload 5, 2) := by decide +kernel
theorem d_L_law_270 : decode code 270 = .ok (.ifCond .ne 15, 3) := by decide +kernel
theorem d_L_law_273 : decode code 273 = .ok (.aload_n 3, 1) := by decide +kernel
theorem d_L_law_274 : decode code 274 = .ok (.iconst 0, 1) := by decide +kernel
theorem d_L_law_275 : decode code 275 = .ok (.laload, 1) := by decide +kernel
theorem d_L_law_276 : decode code 276 = .ok (.iload 6, 2) := by decide +kernel
theorem d_L_law_278 : decode code 278 = .ok (.i2l, 1) := by decide +kernel
theorem d_L_law_279 : decode code 279 = .ok (.lcmp, 1) := by decide +kernel
theorem d_L_law_280 : decode code 280 = .ok (.ifCond .eq 5, 3) := by decide +kernel
theorem d_L_law_283 : decode code 283 = .ok (.iconst 0, 1) := by decide +kernel
theorem d_L_law_284 : decode code 284 = .ok (.ireturn, 1) := by decide +kernel
theorem d_L_law_285 : decode code 285 = .ok (.goto 437, 3) := by decide +kernel
theorem d_L_law_288 : decode code 288 = .ok (.aload_n 1, 1) := by decide +kernel
