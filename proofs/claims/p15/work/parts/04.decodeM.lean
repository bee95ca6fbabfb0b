theorem dXm_init_0 : decode cXm_init 0 = .ok (.aload_n 0, 1) := by decide +kernel
theorem dXm_init_1 : decode cXm_init 1 = .ok (.invokespecial 1, 3) := by decide +kernel
theorem dXm_init_4 : decode cXm_init 4 = .ok (.aload_n 0, 1) := by decide +kernel
theorem dXm_init_5 : decode cXm_init 5 = .ok (.bipush 10, 2) := by decide +kernel
theorem dXm_init_7 : decode cXm_init 7 = .ok (.putfield 7, 3) := by decide +kernel
theorem dXm_init_10 : decode cXm_init 10 = .ok (.aload_n 0, 1) := by decide +kernel
theorem dXm_init_11 : decode cXm_init 11 = .ok (.sipush 128, 3) := by decide +kernel
theorem dXm_init_14 : decode cXm_init 14 = .ok (.newarray .int, 2) := by decide +kernel
theorem dXm_init_16 : decode cXm_init 16 = .ok (.putfield 13, 3) := by decide +kernel
theorem dXm_init_19 : decode cXm_init 19 = .ok (.aload_n 0, 1) := by decide +kernel
theorem dXm_init_20 : decode cXm_init 20 = .ok (.sipush 128, 3) := by decide +kernel
theorem dXm_init_23 : decode cXm_init 23 = .ok (.newarray .int, 2) := by decide +kernel
theorem dXm_init_25 : decode cXm_init 25 = .ok (.putfield 17, 3) := by decide +kernel
theorem dXm_init_28 : decode cXm_init 28 = .ok (.aload_n 0, 1) := by decide +kernel
theorem dXm_init_29 : decode cXm_init 29 = .ok (.bipush 8, 2) := by decide +kernel
theorem dXm_init_31 : decode cXm_init 31 = .ok (.newarray .int, 2) := by decide +kernel
theorem dXm_init_33 : decode cXm_init 33 = .ok (.putfield 20, 3) := by decide +kernel
theorem dXm_init_36 : decode cXm_init 36 = .ok (.aload_n 0, 1) := by decide +kernel
theorem dXm_init_37 : decode cXm_init 37 = .ok (.bipush 8, 2) := by decide +kernel
theorem dXm_init_39 : decode cXm_init 39 = .ok (.newarray .int, 2) := by decide +kernel
theorem dXm_init_41 : decode cXm_init 41 = .ok (.dup, 1) := by decide +kernel
theorem dXm_init_42 : decode cXm_init 42 = .ok (.iconst 0, 1) := by decide +kernel
theorem dXm_init_43 : decode cXm_init 43 = .ok (.bipush 16, 2) := by decide +kernel
theorem dXm_init_45 : decode cXm_init 45 = .ok (.iastore, 1) := by decide +kernel
theorem dXm_init_46 : decode cXm_init 46 = .ok (.dup, 1) := by decide +kernel
theorem dXm_init_47 : decode cXm_init 47 = .ok (.iconst 1, 1) := by decide +kernel
theorem dXm_init_48 : decode cXm_init 48 = .ok (.bipush 16, 2) := by decide +kernel
theorem dXm_init_50 : decode cXm_init 50 = .ok (.iastore, 1) := by decide +kernel
theorem dXm_init_51 : decode cXm_init 51 = .ok (.dup, 1) := by decide +kernel
theorem dXm_init_52 : decode cXm_init 52 = .ok (.iconst 2, 1) := by decide +kernel
theorem dXm_init_53 : decode cXm_init 53 = .ok (.bipush 16, 2) := by decide +kernel
theorem dXm_init_55 : decode cXm_init 55 = .ok (.iastore, 1) := by decide +kernel
theorem dXm_init_56 : decode cXm_init 56 = .ok (.dup, 1) := by decide +kernel
theorem dXm_init_57 : decode cXm_init 57 = .ok (.iconst 3, 1) := by decide +kernel
theorem dXm_init_58 : decode cXm_init 58 = .ok (.bipush 16, 2) := by decide +kernel
theorem dXm_init_60 : decode cXm_init 60 = .ok (.iastore, 1) := by decide +kernel
theorem dXm_init_61 : decode cXm_init 61 = .ok (.dup, 1) := by decide +kernel
theorem dXm_init_62 : decode cXm_init 62 = .ok (.iconst 4, 1) := by decide +kernel
theorem dXm_init_63 : decode cXm_init 63 = .ok (.bipush 16, 2) := by decide +kernel
theorem dXm_init_65 : decode cXm_init 65 = .ok (.iastore, 1) := by decide +kernel
theorem dXm_init_66 : decode cXm_init 66 = .ok (.dup, 1) := by decide +kernel
theorem dXm_init_67 : decode cXm_init 67 = .ok (.iconst 5, 1) := by decide +kernel
theorem dXm_init_68 : decode cXm_init 68 = .ok (.bipush 16, 2) := by decide +kernel
theorem dXm_init_70 : decode cXm_init 70 = .ok (.iastore, 1) := by decide +kernel
theorem dXm_init_71 : decode cXm_init 71 = .ok (.dup, 1) := by decide +kernel
theorem dXm_init_72 : decode cXm_init 72 = .ok (.bipush 6, 2) := by decide +kernel
theorem dXm_init_74 : decode cXm_init 74 = .ok (.bipush 16, 2) := by decide +kernel
theorem dXm_init_76 : decode cXm_init 76 = .ok (.iastore, 1) := by decide +kernel
theorem dXm_init_77 : decode cXm_init 77 = .ok (.dup, 1) := by decide +kernel
theorem dXm_init_78 : decode cXm_init 78 = .ok (.bipush 7, 2) := by decide +kernel
theorem dXm_init_80 : decode cXm_init 80 = .ok (.bipush 16, 2) := by decide +kernel
theorem dXm_init_82 : decode cXm_init 82 = .ok (.iastore, 1) := by decide +kernel
theorem dXm_init_83 : decode cXm_init 83 = .ok (.putfield 23, 3) := by decide +kernel
theorem dXm_init_86 : decode cXm_init 86 = .ok (.aload_n 0, 1) := by decide +kernel
theorem dXm_init_87 : decode cXm_init 87 = .ok (.bipush 8, 2) := by decide +kernel
theorem dXm_init_89 : decode cXm_init 89 = .ok (.newarray .int, 2) := by decide +kernel
theorem dXm_init_91 : decode cXm_init 91 = .ok (.putfield 26, 3) := by decide +kernel
theorem dXm_init_94 : decode cXm_init 94 = .ok (.aload_n 0, 1) := by decide +kernel
theorem dXm_init_95 : decode cXm_init 95 = .ok (.bipush 8, 2) := by decide +kernel
theorem dXm_init_97 : decode cXm_init 97 = .ok (.newarray .int, 2) := by decide +kernel
theorem dXm_init_99 : decode cXm_init 99 = .ok (.putfield 29, 3) := by decide +kernel
theorem dXm_init_102 : decode cXm_init 102 = .ok (.aload_n 0, 1) := by decide +kernel
theorem dXm_init_103 : decode cXm_init 103 = .ok (.bipush 8, 2) := by decide +kernel
theorem dXm_init_105 : decode cXm_init 105 = .ok (.newarray .int, 2) := by decide +kernel
theorem dXm_init_107 : decode cXm_init 107 = .ok (.putfield 32, 3) := by decide +kernel
theorem dXm_init_110 : decode cXm_init 110 = .ok (.aload_n 0, 1) := by decide +kernel
theorem dXm_init_111 : decode cXm_init 111 = .ok (.bipush 8, 2) := by decide +kernel
theorem dXm_init_113 : decode cXm_init 113 = .ok (.newarray .int, 2) := by decide +kernel
theorem dXm_init_115 : decode cXm_init 115 = .ok (.putfield 35, 3) := by decide +kernel
theorem dXm_init_118 : decode cXm_init 118 = .ok (.aload_n 0, 1) := by decide +kernel
theorem dXm_init_119 : decode cXm_init 119 = .ok (.bipush 8, 2) := by decide +kernel
theorem dXm_init_121 : decode cXm_init 121 = .ok (.newarray .int, 2) := by decide +kernel
theorem dXm_init_123 : decode cXm_init 123 = .ok (.putfield 38, 3) := by decide +kernel
theorem dXm_init_126 : decode cXm_init 126 = .ok (.aload_n 0, 1) := by decide +kernel
theorem dXm_init_127 : decode cXm_init 127 = .ok (.bipush 8, 2) := by decide +kernel
theorem dXm_init_129 : decode cXm_init 129 = .ok (.newarray .int, 2) := by decide +kernel
theorem dXm_init_131 : decode cXm_init 131 = .ok (.putfield 41, 3) := by decide +kernel
theorem dXm_init_134 : decode cXm_init 134 = .ok (.aload_n 0, 1) := by decide +kernel
theorem dXm_init_135 : decode cXm_init 135 = .ok (.bipush 8, 2) := by decide +kernel
theorem dXm_init_137 : decode cXm_init 137 = .ok (.newarray .boolean, 2) := by decide +kernel
theorem dXm_init_139 : decode cXm_init 139 = .ok (.putfield 44, 3) := by decide +kernel
theorem dXm_init_142 : decode cXm_init 142 = .ok (.aload_n 0, 1) := by decide +kernel
theorem dXm_init_143 : decode cXm_init 143 = .ok (.bipush 8, 2) := by decide +kernel
theorem dXm_init_145 : decode cXm_init 145 = .ok (.newarray .boolean, 2) := by decide +kernel
theorem dXm_init_147 : decode cXm_init 147 = .ok (.putfield 48, 3) := by decide +kernel
theorem dXm_init_150 : decode cXm_init 150 = .ok (.aload_n 0, 1) := by decide +kernel
theorem dXm_init_151 : decode cXm_init 151 = .ok (.bipush 8, 2) := by decide +kernel
theorem dXm_init_153 : decode cXm_init 153 = .ok (.newarray .boolean, 2) := by decide +kernel
theorem dXm_init_155 : decode cXm_init 155 = .ok (.putfield 51, 3) := by decide +kernel
theorem dXm_init_158 : decode cXm_init 158 = .ok (.aload_n 0, 1) := by decide +kernel
theorem dXm_init_159 : decode cXm_init 159 = .ok (.bipush 10, 2) := by decide +kernel
theorem dXm_init_161 : decode cXm_init 161 = .ok (.newarray .int, 2) := by decide +kernel
theorem dXm_init_163 : decode cXm_init 163 = .ok (.dup, 1) := by decide +kernel
theorem dXm_init_164 : decode cXm_init 164 = .ok (.iconst 0, 1) := by decide +kernel
theorem dXm_init_165 : decode cXm_init 165 = .ok (.iconst (-1), 1) := by decide +kernel
theorem dXm_init_166 : decode cXm_init 166 = .ok (.iastore, 1) := by decide +kernel
theorem dXm_init_167 : decode cXm_init 167 = .ok (.dup, 1) := by decide +kernel
theorem dXm_init_168 : decode cXm_init 168 = .ok (.iconst 1, 1) := by decide +kernel
theorem dXm_init_169 : decode cXm_init 169 = .ok (.iconst (-1), 1) := by decide +kernel
theorem dXm_init_170 : decode cXm_init 170 = .ok (.iastore, 1) := by decide +kernel
theorem dXm_init_171 : decode cXm_init 171 = .ok (.dup, 1) := by decide +kernel
theorem dXm_init_172 : decode cXm_init 172 = .ok (.iconst 2, 1) := by decide +kernel
theorem dXm_init_173 : decode cXm_init 173 = .ok (.iconst (-1), 1) := by decide +kernel
theorem dXm_init_174 : decode cXm_init 174 = .ok (.iastore, 1) := by decide +kernel
theorem dXm_init_175 : decode cXm_init 175 = .ok (.dup, 1) := by decide +kernel
theorem dXm_init_176 : decode cXm_init 176 = .ok (.iconst 3, 1) := by decide +kernel
theorem dXm_init_177 : decode cXm_init 177 = .ok (.iconst (-1), 1) := by decide +kernel
theorem dXm_init_178 : decode cXm_init 178 = .ok (.iastore, 1) := by decide +kernel
theorem dXm_init_179 : decode cXm_init 179 = .ok (.dup, 1) := by decide +kernel
theorem dXm_init_180 : decode cXm_init 180 = .ok (.iconst 4, 1) := by decide +kernel
theorem dXm_init_181 : decode cXm_init 181 = .ok (.iconst (-1), 1) := by decide +kernel
theorem dXm_init_182 : decode cXm_init 182 = .ok (.iastore, 1) := by decide +kernel
theorem dXm_init_183 : decode cXm_init 183 = .ok (.dup, 1) := by decide +kernel
theorem dXm_init_184 : decode cXm_init 184 = .ok (.iconst 5, 1) := by decide +kernel
theorem dXm_init_185 : decode cXm_init 185 = .ok (.iconst (-1), 1) := by decide +kernel
theorem dXm_init_186 : decode cXm_init 186 = .ok (.iastore, 1) := by decide +kernel
theorem dXm_init_187 : decode cXm_init 187 = .ok (.dup, 1) := by decide +kernel
theorem dXm_init_188 : decode cXm_init 188 = .ok (.bipush 6, 2) := by decide +kernel
theorem dXm_init_190 : decode cXm_init 190 = .ok (.iconst (-1), 1) := by decide +kernel
theorem dXm_init_191 : decode cXm_init 191 = .ok (.iastore, 1) := by decide +kernel
theorem dXm_init_192 : decode cXm_init 192 = .ok (.dup, 1) := by decide +kernel
theorem dXm_init_193 : decode cXm_init 193 = .ok (.bipush 7, 2) := by decide +kernel
theorem dXm_init_195 : decode cXm_init 195 = .ok (.iconst (-1), 1) := by decide +kernel
theorem dXm_init_196 : decode cXm_init 196 = .ok (.iastore, 1) := by decide +kernel
theorem dXm_init_197 : decode cXm_init 197 = .ok (.dup, 1) := by decide +kernel
theorem dXm_init_198 : decode cXm_init 198 = .ok (.bipush 8, 2) := by decide +kernel
theorem dXm_init_200 : decode cXm_init 200 = .ok (.iconst (-1), 1) := by decide +kernel
theorem dXm_init_201 : decode cXm_init 201 = .ok (.iastore, 1) := by decide +kernel
theorem dXm_init_202 : decode cXm_init 202 = .ok (.dup, 1) := by decide +kernel
theorem dXm_init_203 : decode cXm_init 203 = .ok (.bipush 9, 2) := by decide +kernel
theorem dXm_init_205 : decode cXm_init 205 = .ok (.iconst (-1), 1) := by decide +kernel
theorem dXm_init_206 : decode cXm_init 206 = .ok (.iastore, 1) := by decide +kernel
theorem dXm_init_207 : decode cXm_init 207 = .ok (.putfield 54, 3) := by decide +kernel
theorem dXm_init_210 : decode cXm_init 210 = .ok (.aload_n 0, 1) := by decide +kernel
theorem dXm_init_211 : decode cXm_init 211 = .ok (.bipush 10, 2) := by decide +kernel
theorem dXm_init_213 : decode cXm_init 213 = .ok (.newarray .int, 2) := by decide +kernel
theorem dXm_init_215 : decode cXm_init 215 = .ok (.dup, 1) := by decide +kernel
theorem dXm_init_216 : decode cXm_init 216 = .ok (.iconst 0, 1) := by decide +kernel
theorem dXm_init_217 : decode cXm_init 217 = .ok (.iconst (-1), 1) := by decide +kernel
theorem dXm_init_218 : decode cXm_init 218 = .ok (.iastore, 1) := by decide +kernel
theorem dXm_init_219 : decode cXm_init 219 = .ok (.dup, 1) := by decide +kernel
theorem dXm_init_220 : decode cXm_init 220 = .ok (.iconst 1, 1) := by decide +kernel
theorem dXm_init_221 : decode cXm_init 221 = .ok (.iconst (-1), 1) := by decide +kernel
theorem dXm_init_222 : decode cXm_init 222 = .ok (.iastore, 1) := by decide +kernel
theorem dXm_init_223 : decode cXm_init 223 = .ok (.dup, 1) := by decide +kernel
theorem dXm_init_224 : decode cXm_init 224 = .ok (.iconst 2, 1) := by decide +kernel
theorem dXm_init_225 : decode cXm_init 225 = .ok (.iconst (-1), 1) := by decide +kernel
theorem dXm_init_226 : decode cXm_init 226 = .ok (.iastore, 1) := by decide +kernel
theorem dXm_init_227 : decode cXm_init 227 = .ok (.dup, 1) := by decide +kernel
theorem dXm_init_228 : decode cXm_init 228 = .ok (.iconst 3, 1) := by decide +kernel
theorem dXm_init_229 : decode cXm_init 229 = .ok (.iconst (-1), 1) := by decide +kernel
theorem dXm_init_230 : decode cXm_init 230 = .ok (.iastore, 1) := by decide +kernel
theorem dXm_init_231 : decode cXm_init 231 = .ok (.dup, 1) := by decide +kernel
theorem dXm_init_232 : decode cXm_init 232 = .ok (.iconst 4, 1) := by decide +kernel
theorem dXm_init_233 : decode cXm_init 233 = .ok (.iconst (-1), 1) := by decide +kernel
theorem dXm_init_234 : decode cXm_init 234 = .ok (.iastore, 1) := by decide +kernel
theorem dXm_init_235 : decode cXm_init 235 = .ok (.dup, 1) := by decide +kernel
theorem dXm_init_236 : decode cXm_init 236 = .ok (.iconst 5, 1) := by decide +kernel
theorem dXm_init_237 : decode cXm_init 237 = .ok (.iconst (-1), 1) := by decide +kernel
theorem dXm_init_238 : decode cXm_init 238 = .ok (.iastore, 1) := by decide +kernel
theorem dXm_init_239 : decode cXm_init 239 = .ok (.dup, 1) := by decide +kernel
theorem dXm_init_240 : decode cXm_init 240 = .ok (.bipush 6, 2) := by decide +kernel
theorem dXm_init_242 : decode cXm_init 242 = .ok (.iconst (-1), 1) := by decide +kernel
theorem dXm_init_243 : decode cXm_init 243 = .ok (.iastore, 1) := by decide +kernel
theorem dXm_init_244 : decode cXm_init 244 = .ok (.dup, 1) := by decide +kernel
theorem dXm_init_245 : decode cXm_init 245 = .ok (.bipush 7, 2) := by decide +kernel
theorem dXm_init_247 : decode cXm_init 247 = .ok (.iconst (-1), 1) := by decide +kernel
theorem dXm_init_248 : decode cXm_init 248 = .ok (.iastore, 1) := by decide +kernel
theorem dXm_init_249 : decode cXm_init 249 = .ok (.dup, 1) := by decide +kernel
theorem dXm_init_250 : decode cXm_init 250 = .ok (.bipush 8, 2) := by decide +kernel
theorem dXm_init_252 : decode cXm_init 252 = .ok (.iconst (-1), 1) := by decide +kernel
theorem dXm_init_253 : decode cXm_init 253 = .ok (.iastore, 1) := by decide +kernel
theorem dXm_init_254 : decode cXm_init 254 = .ok (.dup, 1) := by decide +kernel
theorem dXm_init_255 : decode cXm_init 255 = .ok (.bipush 9, 2) := by decide +kernel
theorem dXm_init_257 : decode cXm_init 257 = .ok (.iconst (-1), 1) := by decide +kernel
theorem dXm_init_258 : decode cXm_init 258 = .ok (.iastore, 1) := by decide +kernel
theorem dXm_init_259 : decode cXm_init 259 = .ok (.putfield 57, 3) := by decide +kernel
theorem dXm_init_262 : decode cXm_init 262 = .ok (.aload_n 0, 1) := by decide +kernel
theorem dXm_init_263 : decode cXm_init 263 = .ok (.bipush 16, 2) := by decide +kernel
theorem dXm_init_265 : decode cXm_init 265 = .ok (.newarray .int, 2) := by decide +kernel
theorem dXm_init_267 : decode cXm_init 267 = .ok (.putfield 60, 3) := by decide +kernel
theorem dXm_init_270 : decode cXm_init 270 = .ok (.aload_n 0, 1) := by decide +kernel
theorem dXm_init_271 : decode cXm_init 271 = .ok (.bipush 16, 2) := by decide +kernel
theorem dXm_init_273 : decode cXm_init 273 = .ok (.newarray .int, 2) := by decide +kernel
theorem dXm_init_275 : decode cXm_init 275 = .ok (.putfield 63, 3) := by decide +kernel
theorem dXm_init_278 : decode cXm_init 278 = .ok (.aload_n 0, 1) := by decide +kernel
theorem dXm_init_279 : decode cXm_init 279 = .ok (.bipush 16, 2) := by decide +kernel
theorem dXm_init_281 : decode cXm_init 281 = .ok (.newarray .int, 2) := by decide +kernel
theorem dXm_init_283 : decode cXm_init 283 = .ok (.putfield 66, 3) := by decide +kernel
theorem dXm_init_286 : decode cXm_init 286 = .ok (.aload_n 0, 1) := by decide +kernel
theorem dXm_init_287 : decode cXm_init 287 = .ok (.bipush 16, 2) := by decide +kernel
theorem dXm_init_289 : decode cXm_init 289 = .ok (.newarray .boolean, 2) := by decide +kernel
theorem dXm_init_291 : decode cXm_init 291 = .ok (.putfield 69, 3) := by decide +kernel
theorem dXm_init_294 : decode cXm_init 294 = .ok (.aload_n 0, 1) := by decide +kernel
theorem dXm_init_295 : decode cXm_init 295 = .ok (.bipush 100, 2) := by decide +kernel
theorem dXm_init_297 : decode cXm_init 297 = .ok (.newarray .int, 2) := by decide +kernel
theorem dXm_init_299 : decode cXm_init 299 = .ok (.putfield 72, 3) := by decide +kernel
theorem dXm_init_302 : decode cXm_init 302 = .ok (.aload_n 0, 1) := by decide +kernel
theorem dXm_init_303 : decode cXm_init 303 = .ok (.bipush 100, 2) := by decide +kernel
theorem dXm_init_305 : decode cXm_init 305 = .ok (.newarray .int, 2) := by decide +kernel
theorem dXm_init_307 : decode cXm_init 307 = .ok (.putfield 75, 3) := by decide +kernel
theorem dXm_init_310 : decode cXm_init 310 = .ok (.aload_n 0, 1) := by decide +kernel
theorem dXm_init_311 : decode cXm_init 311 = .ok (.bipush 100, 2) := by decide +kernel
theorem dXm_init_313 : decode cXm_init 313 = .ok (.newarray .int, 2) := by decide +kernel
theorem dXm_init_315 : decode cXm_init 315 = .ok (.putfield 78, 3) := by decide +kernel
theorem dXm_init_318 : decode cXm_init 318 = .ok (.aload_n 0, 1) := by decide +kernel
theorem dXm_init_319 : decode cXm_init 319 = .ok (.bipush 100, 2) := by decide +kernel
theorem dXm_init_321 : decode cXm_init 321 = .ok (.newarray .int, 2) := by decide +kernel
theorem dXm_init_323 : decode cXm_init 323 = .ok (.putfield 81, 3) := by decide +kernel
theorem dXm_init_326 : decode cXm_init 326 = .ok (.return_, 1) := by decide +kernel
theorem dXm_thrown_0 : decode cXm_thrown 0 = .ok (.aload_n 0, 1) := by decide +kernel
theorem dXm_thrown_1 : decode cXm_thrown 1 = .ok (.getfield 84, 3) := by decide +kernel
theorem dXm_thrown_4 : decode cXm_thrown 4 = .ok (.ireturn, 1) := by decide +kernel
theorem dXm_throwing_0 : decode cXm_throwing 0 = .ok (.aload_n 0, 1) := by decide +kernel
theorem dXm_throwing_1 : decode cXm_throwing 1 = .ok (.iload_n 1, 1) := by decide +kernel
theorem dXm_throwing_2 : decode cXm_throwing 2 = .ok (.ifCond .eq 7, 3) := by decide +kernel
theorem dXm_throwing_5 : decode cXm_throwing 5 = .ok (.iconst 1, 1) := by decide +kernel
theorem dXm_throwing_6 : decode cXm_throwing 6 = .ok (.goto 29, 3) := by decide +kernel
theorem dXm_throwing_9 : decode cXm_throwing 9 = .ok (.iload_n 2, 1) := by decide +kernel
theorem dXm_throwing_10 : decode cXm_throwing 10 = .ok (.ifCond .eq 7, 3) := by decide +kernel
theorem dXm_throwing_13 : decode cXm_throwing 13 = .ok (.iconst 2, 1) := by decide +kernel
theorem dXm_throwing_14 : decode cXm_throwing 14 = .ok (.goto 21, 3) := by decide +kernel
theorem dXm_throwing_17 : decode cXm_throwing 17 = .ok (.iload_n 3, 1) := by decide +kernel
theorem dXm_throwing_18 : decode cXm_throwing 18 = .ok (.ifCond .eq 7, 3) := by decide +kernel
theorem dXm_throwing_21 : decode cXm_throwing 21 = .ok (.iconst 3, 1) := by decide +kernel
theorem dXm_throwing_22 : decode cXm_throwing 22 = .ok (.goto 13, 3) := by decide +kernel
theorem dXm_throwing_25 : decode cXm_throwing 25 = .ok (.iload 4, 2) := by decide +kernel
theorem dXm_throwing_27 : decode cXm_throwing 27 = .ok (.ifCond .eq 7, 3) := by decide +kernel
theorem dXm_throwing_30 : decode cXm_throwing 30 = .ok (.iconst 4, 1) := by decide +kernel
theorem dXm_throwing_31 : decode cXm_throwing 31 = .ok (.goto 4, 3) := by decide +kernel
theorem dXm_throwing_34 : decode cXm_throwing 34 = .ok (.iconst 0, 1) := by decide +kernel
theorem dXm_throwing_35 : decode cXm_throwing 35 = .ok (.putfield 84, 3) := by decide +kernel
theorem dXm_throwing_38 : decode cXm_throwing 38 = .ok (.aload_n 0, 1) := by decide +kernel
theorem dXm_throwing_39 : decode cXm_throwing 39 = .ok (.getfield 84, 3) := by decide +kernel
theorem dXm_throwing_42 : decode cXm_throwing 42 = .ok (.ifCond .le 7, 3) := by decide +kernel
theorem dXm_throwing_45 : decode cXm_throwing 45 = .ok (.iconst 1, 1) := by decide +kernel
theorem dXm_throwing_46 : decode cXm_throwing 46 = .ok (.goto 4, 3) := by decide +kernel
theorem dXm_throwing_49 : decode cXm_throwing 49 = .ok (.iconst 0, 1) := by decide +kernel
theorem dXm_throwing_50 : decode cXm_throwing 50 = .ok (.ireturn, 1) := by decide +kernel
theorem dXm_in_0 : decode cXm_in 0 = .ok (.iload_n 0, 1) := by decide +kernel
theorem dXm_in_1 : decode cXm_in 1 = .ok (.iload_n 1, 1) := by decide +kernel
theorem dXm_in_2 : decode cXm_in 2 = .ok (.if_icmp .lt 12, 3) := by decide +kernel
theorem dXm_in_5 : decode cXm_in 5 = .ok (.iload_n 0, 1) := by decide +kernel
theorem dXm_in_6 : decode cXm_in 6 = .ok (.iload_n 2, 1) := by decide +kernel
theorem dXm_in_7 : decode cXm_in 7 = .ok (.if_icmp .gt 7, 3) := by decide +kernel
theorem dXm_in_10 : decode cXm_in 10 = .ok (.iconst 1, 1) := by decide +kernel
theorem dXm_in_11 : decode cXm_in 11 = .ok (.goto 4, 3) := by decide +kernel
theorem dXm_in_14 : decode cXm_in 14 = .ok (.iconst 0, 1) := by decide +kernel
theorem dXm_in_15 : decode cXm_in 15 = .ok (.ireturn, 1) := by decide +kernel
theorem dXm_isThread_0 : decode cXm_isThread 0 = .ok (.iload_n 0, 1) := by decide +kernel
theorem dXm_isThread_1 : decode cXm_isThread 1 = .ok (.iconst 0, 1) := by decide +kernel
theorem dXm_isThread_2 : decode cXm_isThread 2 = .ok (.bipush 7, 2) := by decide +kernel
theorem dXm_isThread_4 : decode cXm_isThread 4 = .ok (.invokestatic 87, 3) := by decide +kernel
theorem dXm_isThread_7 : decode cXm_isThread 7 = .ok (.ireturn, 1) := by decide +kernel
theorem dXm_hasBegun_0 : decode cXm_hasBegun 0 = .ok (.iload_n 1, 1) := by decide +kernel
theorem dXm_hasBegun_1 : decode cXm_hasBegun 1 = .ok (.invokestatic 91, 3) := by decide +kernel
theorem dXm_hasBegun_4 : decode cXm_hasBegun 4 = .ok (.ifCond .eq 16, 3) := by decide +kernel
theorem dXm_hasBegun_7 : decode cXm_hasBegun 7 = .ok (.aload_n 0, 1) := by decide +kernel
theorem dXm_hasBegun_8 : decode cXm_hasBegun 8 = .ok (.getfield 44, 3) := by decide +kernel
theorem dXm_hasBegun_11 : decode cXm_hasBegun 11 = .ok (.iload_n 1, 1) := by decide +kernel
theorem dXm_hasBegun_12 : decode cXm_hasBegun 12 = .ok (.baload, 1) := by decide +kernel
theorem dXm_hasBegun_13 : decode cXm_hasBegun 13 = .ok (.ifCond .eq 7, 3) := by decide +kernel
theorem dXm_hasBegun_16 : decode cXm_hasBegun 16 = .ok (.iconst 1, 1) := by decide +kernel
theorem dXm_hasBegun_17 : decode cXm_hasBegun 17 = .ok (.goto 4, 3) := by decide +kernel
theorem dXm_hasBegun_20 : decode cXm_hasBegun 20 = .ok (.iconst 0, 1) := by decide +kernel
theorem dXm_hasBegun_21 : decode cXm_hasBegun 21 = .ok (.ireturn, 1) := by decide +kernel
theorem dXm_act_0 : decode cXm_act 0 = .ok (.iload_n 1, 1) := by decide +kernel
theorem dXm_act_1 : decode cXm_act 1 = .ok (.invokestatic 91, 3) := by decide +kernel
theorem dXm_act_4 : decode cXm_act 4 = .ok (.ifCond .eq 13, 3) := by decide +kernel
theorem dXm_act_7 : decode cXm_act 7 = .ok (.iload_n 2, 1) := by decide +kernel
theorem dXm_act_8 : decode cXm_act 8 = .ok (.iconst 0, 1) := by decide +kernel
theorem dXm_act_9 : decode cXm_act 9 = .ok (.bipush 6, 2) := by decide +kernel
theorem dXm_act_11 : decode cXm_act 11 = .ok (.invokestatic 87, 3) := by decide +kernel
theorem dXm_act_14 : decode cXm_act 14 = .ok (.ifCond .ne 7, 3) := by decide +kernel
theorem dXm_act_17 : decode cXm_act 17 = .ok (.iconst 1, 1) := by decide +kernel
theorem dXm_act_18 : decode cXm_act 18 = .ok (.goto 4, 3) := by decide +kernel
theorem dXm_act_21 : decode cXm_act 21 = .ok (.iconst 0, 1) := by decide +kernel
theorem dXm_act_22 : decode cXm_act 22 = .ok (.istore 4, 2) := by decide +kernel
theorem dXm_act_24 : decode cXm_act 24 = .ok (.aload_n 0, 1) := by decide +kernel
theorem dXm_act_25 : decode cXm_act 25 = .ok (.iload 4, 2) := by decide +kernel
theorem dXm_act_27 : decode cXm_act 27 = .ok (.iload_n 3, 1) := by decide +kernel
theorem dXm_act_28 : decode cXm_act 28 = .ok (.iconst 0, 1) := by decide +kernel
theorem dXm_act_29 : decode cXm_act 29 = .ok (.sipush 255, 3) := by decide +kernel
theorem dXm_act_32 : decode cXm_act 32 = .ok (.invokestatic 87, 3) := by decide +kernel
theorem dXm_act_35 : decode cXm_act 35 = .ok (.ifCond .ne 7, 3) := by decide +kernel
theorem dXm_act_38 : decode cXm_act 38 = .ok (.iconst 1, 1) := by decide +kernel
theorem dXm_act_39 : decode cXm_act 39 = .ok (.goto 4, 3) := by decide +kernel
theorem dXm_act_42 : decode cXm_act 42 = .ok (.iconst 0, 1) := by decide +kernel
theorem dXm_act_43 : decode cXm_act 43 = .ok (.aload_n 0, 1) := by decide +kernel
theorem dXm_act_44 : decode cXm_act 44 = .ok (.iload_n 1, 1) := by decide +kernel
theorem dXm_act_45 : decode cXm_act 45 = .ok (.invokevirtual 95, 3) := by decide +kernel
theorem dXm_act_48 : decode cXm_act 48 = .ok (.iload 4, 2) := by decide +kernel
theorem dXm_act_50 : decode cXm_act 50 = .ok (.ifCond .ne 27, 3) := by decide +kernel
theorem dXm_act_53 : decode cXm_act 53 = .ok (.aload_n 0, 1) := by decide +kernel
theorem dXm_act_54 : decode cXm_act 54 = .ok (.getfield 20, 3) := by decide +kernel
theorem dXm_act_57 : decode cXm_act 57 = .ok (.iload 4, 2) := by decide +kernel
theorem dXm_act_59 : decode cXm_act 59 = .ok (.ifCond .eq 7, 3) := by decide +kernel
theorem dXm_act_62 : decode cXm_act 62 = .ok (.iconst 0, 1) := by decide +kernel
theorem dXm_act_63 : decode cXm_act 63 = .ok (.goto 4, 3) := by decide +kernel
theorem dXm_act_66 : decode cXm_act 66 = .ok (.iload_n 1, 1) := by decide +kernel
theorem dXm_act_67 : decode cXm_act 67 = .ok (.iaload, 1) := by decide +kernel
theorem dXm_act_68 : decode cXm_act 68 = .ok (.bipush 16, 2) := by decide +kernel
theorem dXm_act_70 : decode cXm_act 70 = .ok (.if_icmp .ne 7, 3) := by decide +kernel
theorem dXm_act_73 : decode cXm_act 73 = .ok (.iconst 1, 1) := by decide +kernel
theorem dXm_act_74 : decode cXm_act 74 = .ok (.goto 4, 3) := by decide +kernel
theorem dXm_act_77 : decode cXm_act 77 = .ok (.iconst 0, 1) := by decide +kernel
theorem dXm_act_78 : decode cXm_act 78 = .ok (.invokevirtual 98, 3) := by decide +kernel
theorem dXm_act_81 : decode cXm_act 81 = .ok (.ifCond .eq 5, 3) := by decide +kernel
theorem dXm_act_84 : decode cXm_act 84 = .ok (.iconst 0, 1) := by decide +kernel
theorem dXm_act_85 : decode cXm_act 85 = .ok (.ireturn, 1) := by decide +kernel
theorem dXm_act_86 : decode cXm_act 86 = .ok (.aload_n 0, 1) := by decide +kernel
theorem dXm_act_87 : decode cXm_act 87 = .ok (.getfield 13, 3) := by decide +kernel
theorem dXm_act_90 : decode cXm_act 90 = .ok (.bipush 16, 2) := by decide +kernel
theorem dXm_act_92 : decode cXm_act 92 = .ok (.iload_n 1, 1) := by decide +kernel
theorem dXm_act_93 : decode cXm_act 93 = .ok (.imul, 1) := by decide +kernel
theorem dXm_act_94 : decode cXm_act 94 = .ok (.aload_n 0, 1) := by decide +kernel
theorem dXm_act_95 : decode cXm_act 95 = .ok (.getfield 20, 3) := by decide +kernel
theorem dXm_act_98 : decode cXm_act 98 = .ok (.iload_n 1, 1) := by decide +kernel
theorem dXm_act_99 : decode cXm_act 99 = .ok (.iaload, 1) := by decide +kernel
theorem dXm_act_100 : decode cXm_act 100 = .ok (.iadd, 1) := by decide +kernel
theorem dXm_act_101 : decode cXm_act 101 = .ok (.iload_n 2, 1) := by decide +kernel
theorem dXm_act_102 : decode cXm_act 102 = .ok (.iastore, 1) := by decide +kernel
theorem dXm_act_103 : decode cXm_act 103 = .ok (.aload_n 0, 1) := by decide +kernel
theorem dXm_act_104 : decode cXm_act 104 = .ok (.getfield 17, 3) := by decide +kernel
theorem dXm_act_107 : decode cXm_act 107 = .ok (.bipush 16, 2) := by decide +kernel
theorem dXm_act_109 : decode cXm_act 109 = .ok (.iload_n 1, 1) := by decide +kernel
theorem dXm_act_110 : decode cXm_act 110 = .ok (.imul, 1) := by decide +kernel
theorem dXm_act_111 : decode cXm_act 111 = .ok (.aload_n 0, 1) := by decide +kernel
theorem dXm_act_112 : decode cXm_act 112 = .ok (.getfield 20, 3) := by decide +kernel
theorem dXm_act_115 : decode cXm_act 115 = .ok (.iload_n 1, 1) := by decide +kernel
theorem dXm_act_116 : decode cXm_act 116 = .ok (.iaload, 1) := by decide +kernel
theorem dXm_act_117 : decode cXm_act 117 = .ok (.iadd, 1) := by decide +kernel
theorem dXm_act_118 : decode cXm_act 118 = .ok (.iload_n 3, 1) := by decide +kernel
theorem dXm_act_119 : decode cXm_act 119 = .ok (.iastore, 1) := by decide +kernel
theorem dXm_act_120 : decode cXm_act 120 = .ok (.aload_n 0, 1) := by decide +kernel
theorem dXm_act_121 : decode cXm_act 121 = .ok (.getfield 20, 3) := by decide +kernel
theorem dXm_act_124 : decode cXm_act 124 = .ok (.iload_n 1, 1) := by decide +kernel
theorem dXm_act_125 : decode cXm_act 125 = .ok (.dup2, 1) := by decide +kernel
theorem dXm_act_126 : decode cXm_act 126 = .ok (.iaload, 1) := by decide +kernel
theorem dXm_act_127 : decode cXm_act 127 = .ok (.iconst 1, 1) := by decide +kernel
theorem dXm_act_128 : decode cXm_act 128 = .ok (.iadd, 1) := by decide +kernel
theorem dXm_act_129 : decode cXm_act 129 = .ok (.iastore, 1) := by decide +kernel
theorem dXm_act_130 : decode cXm_act 130 = .ok (.aload_n 0, 1) := by decide +kernel
theorem dXm_act_131 : decode cXm_act 131 = .ok (.getfield 20, 3) := by decide +kernel
theorem dXm_act_134 : decode cXm_act 134 = .ok (.iload_n 1, 1) := by decide +kernel
theorem dXm_act_135 : decode cXm_act 135 = .ok (.iaload, 1) := by decide +kernel
theorem dXm_act_136 : decode cXm_act 136 = .ok (.ireturn, 1) := by decide +kernel
theorem dXm_finish_0 : decode cXm_finish 0 = .ok (.iload_n 1, 1) := by decide +kernel
theorem dXm_finish_1 : decode cXm_finish 1 = .ok (.invokestatic 91, 3) := by decide +kernel
theorem dXm_finish_4 : decode cXm_finish 4 = .ok (.ifCond .ne 7, 3) := by decide +kernel
theorem dXm_finish_7 : decode cXm_finish 7 = .ok (.iconst 1, 1) := by decide +kernel
theorem dXm_finish_8 : decode cXm_finish 8 = .ok (.goto 4, 3) := by decide +kernel
theorem dXm_finish_11 : decode cXm_finish 11 = .ok (.iconst 0, 1) := by decide +kernel
theorem dXm_finish_12 : decode cXm_finish 12 = .ok (.istore_n 3, 1) := by decide +kernel
theorem dXm_finish_13 : decode cXm_finish 13 = .ok (.aload_n 0, 1) := by decide +kernel
theorem dXm_finish_14 : decode cXm_finish 14 = .ok (.iload_n 3, 1) := by decide +kernel
theorem dXm_finish_15 : decode cXm_finish 15 = .ok (.iload_n 3, 1) := by decide +kernel
theorem dXm_finish_16 : decode cXm_finish 16 = .ok (.ifCond .ne 29, 3) := by decide +kernel
theorem dXm_finish_19 : decode cXm_finish 19 = .ok (.iload_n 2, 1) := by decide +kernel
theorem dXm_finish_20 : decode cXm_finish 20 = .ok (.iconst 0, 1) := by decide +kernel
theorem dXm_finish_21 : decode cXm_finish 21 = .ok (.aload_n 0, 1) := by decide +kernel
theorem dXm_finish_22 : decode cXm_finish 22 = .ok (.getfield 20, 3) := by decide +kernel
theorem dXm_finish_25 : decode cXm_finish 25 = .ok (.iload_n 3, 1) := by decide +kernel
theorem dXm_finish_26 : decode cXm_finish 26 = .ok (.ifCond .eq 7, 3) := by decide +kernel
theorem dXm_finish_29 : decode cXm_finish 29 = .ok (.iconst 0, 1) := by decide +kernel
theorem dXm_finish_30 : decode cXm_finish 30 = .ok (.goto 4, 3) := by decide +kernel
theorem dXm_finish_33 : decode cXm_finish 33 = .ok (.iload_n 1, 1) := by decide +kernel
theorem dXm_finish_34 : decode cXm_finish 34 = .ok (.iaload, 1) := by decide +kernel
theorem dXm_finish_35 : decode cXm_finish 35 = .ok (.invokestatic 87, 3) := by decide +kernel
theorem dXm_finish_38 : decode cXm_finish 38 = .ok (.ifCond .ne 7, 3) := by decide +kernel
theorem dXm_finish_41 : decode cXm_finish 41 = .ok (.iconst 1, 1) := by decide +kernel
theorem dXm_finish_42 : decode cXm_finish 42 = .ok (.goto 4, 3) := by decide +kernel
theorem dXm_finish_45 : decode cXm_finish 45 = .ok (.iconst 0, 1) := by decide +kernel
theorem dXm_finish_46 : decode cXm_finish 46 = .ok (.aload_n 0, 1) := by decide +kernel
theorem dXm_finish_47 : decode cXm_finish 47 = .ok (.iload_n 1, 1) := by decide +kernel
theorem dXm_finish_48 : decode cXm_finish 48 = .ok (.invokevirtual 95, 3) := by decide +kernel
theorem dXm_finish_51 : decode cXm_finish 51 = .ok (.iconst 0, 1) := by decide +kernel
theorem dXm_finish_52 : decode cXm_finish 52 = .ok (.invokevirtual 98, 3) := by decide +kernel
theorem dXm_finish_55 : decode cXm_finish 55 = .ok (.ifCond .eq 4, 3) := by decide +kernel
theorem dXm_finish_58 : decode cXm_finish 58 = .ok (.return_, 1) := by decide +kernel
theorem dXm_finish_59 : decode cXm_finish 59 = .ok (.aload_n 0, 1) := by decide +kernel
theorem dXm_finish_60 : decode cXm_finish 60 = .ok (.getfield 23, 3) := by decide +kernel
theorem dXm_finish_63 : decode cXm_finish 63 = .ok (.iload_n 1, 1) := by decide +kernel
theorem dXm_finish_64 : decode cXm_finish 64 = .ok (.iload_n 2, 1) := by decide +kernel
theorem dXm_finish_65 : decode cXm_finish 65 = .ok (.aload_n 0, 1) := by decide +kernel
theorem dXm_finish_66 : decode cXm_finish 66 = .ok (.getfield 20, 3) := by decide +kernel
theorem dXm_finish_69 : decode cXm_finish 69 = .ok (.iload_n 1, 1) := by decide +kernel
theorem dXm_finish_70 : decode cXm_finish 70 = .ok (.iaload, 1) := by decide +kernel
theorem dXm_finish_71 : decode cXm_finish 71 = .ok (.if_icmp .ne 8, 3) := by decide +kernel
theorem dXm_finish_74 : decode cXm_finish 74 = .ok (.bipush 16, 2) := by decide +kernel
theorem dXm_finish_76 : decode cXm_finish 76 = .ok (.goto 4, 3) := by decide +kernel
theorem dXm_finish_79 : decode cXm_finish 79 = .ok (.iload_n 2, 1) := by decide +kernel
theorem dXm_finish_80 : decode cXm_finish 80 = .ok (.iastore, 1) := by decide +kernel
theorem dXm_finish_81 : decode cXm_finish 81 = .ok (.return_, 1) := by decide +kernel
theorem dXm_call_0 : decode cXm_call 0 = .ok (.aload_n 0, 1) := by decide +kernel
theorem dXm_call_1 : decode cXm_call 1 = .ok (.iload_n 1, 1) := by decide +kernel
theorem dXm_call_2 : decode cXm_call 2 = .ok (.iconst 0, 1) := by decide +kernel
theorem dXm_call_3 : decode cXm_call 3 = .ok (.iconst 3, 1) := by decide +kernel
theorem dXm_call_4 : decode cXm_call 4 = .ok (.invokestatic 87, 3) := by decide +kernel
theorem dXm_call_7 : decode cXm_call 7 = .ok (.ifCond .ne 7, 3) := by decide +kernel
theorem dXm_call_10 : decode cXm_call 10 = .ok (.iconst 1, 1) := by decide +kernel
theorem dXm_call_11 : decode cXm_call 11 = .ok (.goto 4, 3) := by decide +kernel
theorem dXm_call_14 : decode cXm_call 14 = .ok (.iconst 0, 1) := by decide +kernel
theorem dXm_call_15 : decode cXm_call 15 = .ok (.aload_n 0, 1) := by decide +kernel
theorem dXm_call_16 : decode cXm_call 16 = .ok (.getfield 102, 3) := by decide +kernel
theorem dXm_call_19 : decode cXm_call 19 = .ok (.bipush 16, 2) := by decide +kernel
theorem dXm_call_21 : decode cXm_call 21 = .ok (.if_icmp .ne 7, 3) := by decide +kernel
theorem dXm_call_24 : decode cXm_call 24 = .ok (.iconst 1, 1) := by decide +kernel
theorem dXm_call_25 : decode cXm_call 25 = .ok (.goto 4, 3) := by decide +kernel
theorem dXm_call_28 : decode cXm_call 28 = .ok (.iconst 0, 1) := by decide +kernel
theorem dXm_call_29 : decode cXm_call 29 = .ok (.iconst 0, 1) := by decide +kernel
theorem dXm_call_30 : decode cXm_call 30 = .ok (.iconst 0, 1) := by decide +kernel
theorem dXm_call_31 : decode cXm_call 31 = .ok (.invokevirtual 98, 3) := by decide +kernel
theorem dXm_call_34 : decode cXm_call 34 = .ok (.ifCond .eq 5, 3) := by decide +kernel
theorem dXm_call_37 : decode cXm_call 37 = .ok (.iconst 0, 1) := by decide +kernel
theorem dXm_call_38 : decode cXm_call 38 = .ok (.ireturn, 1) := by decide +kernel
theorem dXm_call_39 : decode cXm_call 39 = .ok (.aload_n 0, 1) := by decide +kernel
theorem dXm_call_40 : decode cXm_call 40 = .ok (.getfield 60, 3) := by decide +kernel
theorem dXm_call_43 : decode cXm_call 43 = .ok (.aload_n 0, 1) := by decide +kernel
theorem dXm_call_44 : decode cXm_call 44 = .ok (.getfield 102, 3) := by decide +kernel
theorem dXm_call_47 : decode cXm_call 47 = .ok (.iload_n 1, 1) := by decide +kernel
theorem dXm_call_48 : decode cXm_call 48 = .ok (.iastore, 1) := by decide +kernel
theorem dXm_call_49 : decode cXm_call 49 = .ok (.aload_n 0, 1) := by decide +kernel
theorem dXm_call_50 : decode cXm_call 50 = .ok (.getfield 63, 3) := by decide +kernel
theorem dXm_call_53 : decode cXm_call 53 = .ok (.aload_n 0, 1) := by decide +kernel
theorem dXm_call_54 : decode cXm_call 54 = .ok (.getfield 102, 3) := by decide +kernel
theorem dXm_call_57 : decode cXm_call 57 = .ok (.iconst (-1), 1) := by decide +kernel
theorem dXm_call_58 : decode cXm_call 58 = .ok (.iastore, 1) := by decide +kernel
theorem dXm_call_59 : decode cXm_call 59 = .ok (.aload_n 0, 1) := by decide +kernel
theorem dXm_call_60 : decode cXm_call 60 = .ok (.getfield 66, 3) := by decide +kernel
theorem dXm_call_63 : decode cXm_call 63 = .ok (.aload_n 0, 1) := by decide +kernel
theorem dXm_call_64 : decode cXm_call 64 = .ok (.getfield 102, 3) := by decide +kernel
theorem dXm_call_67 : decode cXm_call 67 = .ok (.iconst (-1), 1) := by decide +kernel
theorem dXm_call_68 : decode cXm_call 68 = .ok (.iastore, 1) := by decide +kernel
theorem dXm_call_69 : decode cXm_call 69 = .ok (.aload_n 0, 1) := by decide +kernel
theorem dXm_call_70 : decode cXm_call 70 = .ok (.getfield 69, 3) := by decide +kernel
theorem dXm_call_73 : decode cXm_call 73 = .ok (.aload_n 0, 1) := by decide +kernel
theorem dXm_call_74 : decode cXm_call 74 = .ok (.getfield 102, 3) := by decide +kernel
theorem dXm_call_77 : decode cXm_call 77 = .ok (.iconst 1, 1) := by decide +kernel
theorem dXm_call_78 : decode cXm_call 78 = .ok (.bastore, 1) := by decide +kernel
theorem dXm_call_79 : decode cXm_call 79 = .ok (.aload_n 0, 1) := by decide +kernel
theorem dXm_call_80 : decode cXm_call 80 = .ok (.dup, 1) := by decide +kernel
theorem dXm_call_81 : decode cXm_call 81 = .ok (.getfield 102, 3) := by decide +kernel
theorem dXm_call_84 : decode cXm_call 84 = .ok (.iconst 1, 1) := by decide +kernel
theorem dXm_call_85 : decode cXm_call 85 = .ok (.iadd, 1) := by decide +kernel
theorem dXm_call_86 : decode cXm_call 86 = .ok (.putfield 102, 3) := by decide +kernel
theorem dXm_call_89 : decode cXm_call 89 = .ok (.iconst 0, 1) := by decide +kernel
theorem dXm_call_90 : decode cXm_call 90 = .ok (.istore_n 2, 1) := by decide +kernel
theorem dXm_call_91 : decode cXm_call 91 = .ok (.iload_n 2, 1) := by decide +kernel
theorem dXm_call_92 : decode cXm_call 92 = .ok (.bipush 8, 2) := by decide +kernel
theorem dXm_call_94 : decode cXm_call 94 = .ok (.if_icmp .ge 102, 3) := by decide +kernel
theorem dXm_call_97 : decode cXm_call 97 = .ok (.iconst 1, 1) := by decide +kernel
theorem dXm_call_98 : decode cXm_call 98 = .ok (.istore_n 3, 1) := by decide +kernel
theorem dXm_call_99 : decode cXm_call 99 = .ok (.iconst 0, 1) := by decide +kernel
theorem dXm_call_100 : decode cXm_call 100 = .ok (.istore 4, 2) := by decide +kernel
theorem dXm_call_102 : decode cXm_call 102 = .ok (.iload 4, 2) := by decide +kernel
theorem dXm_call_104 : decode cXm_call 104 = .ok (.aload_n 0, 1) := by decide +kernel
theorem dXm_call_105 : decode cXm_call 105 = .ok (.getfield 102, 3) := by decide +kernel
theorem dXm_call_108 : decode cXm_call 108 = .ok (.iconst 1, 1) := by decide +kernel
theorem dXm_call_109 : decode cXm_call 109 = .ok (.isub, 1) := by decide +kernel
theorem dXm_call_110 : decode cXm_call 110 = .ok (.if_icmp .ge 51, 3) := by decide +kernel
theorem dXm_call_113 : decode cXm_call 113 = .ok (.iload_n 3, 1) := by decide +kernel
theorem dXm_call_114 : decode cXm_call 114 = .ok (.ifCond .eq 39, 3) := by decide +kernel
theorem dXm_call_117 : decode cXm_call 117 = .ok (.aload_n 0, 1) := by decide +kernel
theorem dXm_call_118 : decode cXm_call 118 = .ok (.getfield 69, 3) := by decide +kernel
theorem dXm_call_121 : decode cXm_call 121 = .ok (.iload 4, 2) := by decide +kernel
theorem dXm_call_123 : decode cXm_call 123 = .ok (.baload, 1) := by decide +kernel
theorem dXm_call_124 : decode cXm_call 124 = .ok (.ifCond .eq 25, 3) := by decide +kernel
theorem dXm_call_127 : decode cXm_call 127 = .ok (.aload_n 0, 1) := by decide +kernel
theorem dXm_call_128 : decode cXm_call 128 = .ok (.getfield 63, 3) := by decide +kernel
theorem dXm_call_131 : decode cXm_call 131 = .ok (.iload 4, 2) := by decide +kernel
theorem dXm_call_133 : decode cXm_call 133 = .ok (.iaload, 1) := by decide +kernel
theorem dXm_call_134 : decode cXm_call 134 = .ok (.iload_n 2, 1) := by decide +kernel
theorem dXm_call_135 : decode cXm_call 135 = .ok (.if_icmp .ne 14, 3) := by decide +kernel
theorem dXm_call_138 : decode cXm_call 138 = .ok (.aload_n 0, 1) := by decide +kernel
theorem dXm_call_139 : decode cXm_call 139 = .ok (.getfield 60, 3) := by decide +kernel
theorem dXm_call_142 : decode cXm_call 142 = .ok (.iload 4, 2) := by decide +kernel
theorem dXm_call_144 : decode cXm_call 144 = .ok (.iaload, 1) := by decide +kernel
theorem dXm_call_145 : decode cXm_call 145 = .ok (.iload_n 1, 1) := by decide +kernel
theorem dXm_call_146 : decode cXm_call 146 = .ok (.if_icmp .ge 7, 3) := by decide +kernel
theorem dXm_call_149 : decode cXm_call 149 = .ok (.iconst 1, 1) := by decide +kernel
theorem dXm_call_150 : decode cXm_call 150 = .ok (.goto 4, 3) := by decide +kernel
theorem dXm_call_153 : decode cXm_call 153 = .ok (.iconst 0, 1) := by decide +kernel
theorem dXm_call_154 : decode cXm_call 154 = .ok (.istore_n 3, 1) := by decide +kernel
theorem dXm_call_155 : decode cXm_call 155 = .ok (.iinc 4 1, 3) := by decide +kernel
theorem dXm_call_158 : decode cXm_call 158 = .ok (.goto (-56), 3) := by decide +kernel
theorem dXm_call_161 : decode cXm_call 161 = .ok (.aload_n 0, 1) := by decide +kernel
theorem dXm_call_162 : decode cXm_call 162 = .ok (.getfield 26, 3) := by decide +kernel
theorem dXm_call_165 : decode cXm_call 165 = .ok (.iload_n 2, 1) := by decide +kernel
theorem dXm_call_166 : decode cXm_call 166 = .ok (.iaload, 1) := by decide +kernel
theorem dXm_call_167 : decode cXm_call 167 = .ok (.ifCond .ne 23, 3) := by decide +kernel
theorem dXm_call_170 : decode cXm_call 170 = .ok (.aload_n 0, 1) := by decide +kernel
theorem dXm_call_171 : decode cXm_call 171 = .ok (.getfield 48, 3) := by decide +kernel
theorem dXm_call_174 : decode cXm_call 174 = .ok (.iload_n 2, 1) := by decide +kernel
theorem dXm_call_175 : decode cXm_call 175 = .ok (.baload, 1) := by decide +kernel
theorem dXm_call_176 : decode cXm_call 176 = .ok (.ifCond .eq 14, 3) := by decide +kernel
theorem dXm_call_179 : decode cXm_call 179 = .ok (.iload_n 3, 1) := by decide +kernel
theorem dXm_call_180 : decode cXm_call 180 = .ok (.ifCond .eq 10, 3) := by decide +kernel
theorem dXm_call_183 : decode cXm_call 183 = .ok (.aload_n 0, 1) := by decide +kernel
theorem dXm_call_184 : decode cXm_call 184 = .ok (.getfield 51, 3) := by decide +kernel
theorem dXm_call_187 : decode cXm_call 187 = .ok (.iload_n 2, 1) := by decide +kernel
theorem dXm_call_188 : decode cXm_call 188 = .ok (.iconst 1, 1) := by decide +kernel
theorem dXm_call_189 : decode cXm_call 189 = .ok (.bastore, 1) := by decide +kernel
theorem dXm_call_190 : decode cXm_call 190 = .ok (.iinc 2 1, 3) := by decide +kernel
theorem dXm_call_193 : decode cXm_call 193 = .ok (.goto (-102), 3) := by decide +kernel
theorem dXm_call_196 : decode cXm_call 196 = .ok (.aload_n 0, 1) := by decide +kernel
theorem dXm_call_197 : decode cXm_call 197 = .ok (.getfield 102, 3) := by decide +kernel
theorem dXm_call_200 : decode cXm_call 200 = .ok (.iconst 1, 1) := by decide +kernel
theorem dXm_call_201 : decode cXm_call 201 = .ok (.isub, 1) := by decide +kernel
theorem dXm_call_202 : decode cXm_call 202 = .ok (.ireturn, 1) := by decide +kernel
theorem dXm_free_0 : decode cXm_free 0 = .ok (.iconst 0, 1) := by decide +kernel
theorem dXm_free_1 : decode cXm_free 1 = .ok (.istore_n 2, 1) := by decide +kernel
theorem dXm_free_2 : decode cXm_free 2 = .ok (.iload_n 2, 1) := by decide +kernel
theorem dXm_free_3 : decode cXm_free 3 = .ok (.bipush 10, 2) := by decide +kernel
theorem dXm_free_5 : decode cXm_free 5 = .ok (.if_icmp .ge 26, 3) := by decide +kernel
theorem dXm_free_8 : decode cXm_free 8 = .ok (.aload_n 0, 1) := by decide +kernel
theorem dXm_free_9 : decode cXm_free 9 = .ok (.getfield 54, 3) := by decide +kernel
theorem dXm_free_12 : decode cXm_free 12 = .ok (.iload_n 2, 1) := by decide +kernel
theorem dXm_free_13 : decode cXm_free 13 = .ok (.iaload, 1) := by decide +kernel
theorem dXm_free_14 : decode cXm_free 14 = .ok (.iload_n 1, 1) := by decide +kernel
theorem dXm_free_15 : decode cXm_free 15 = .ok (.if_icmp .ne 10, 3) := by decide +kernel
theorem dXm_free_18 : decode cXm_free 18 = .ok (.aload_n 0, 1) := by decide +kernel
theorem dXm_free_19 : decode cXm_free 19 = .ok (.getfield 54, 3) := by decide +kernel
theorem dXm_free_22 : decode cXm_free 22 = .ok (.iload_n 2, 1) := by decide +kernel
theorem dXm_free_23 : decode cXm_free 23 = .ok (.iconst (-1), 1) := by decide +kernel
theorem dXm_free_24 : decode cXm_free 24 = .ok (.iastore, 1) := by decide +kernel
theorem dXm_free_25 : decode cXm_free 25 = .ok (.iinc 2 1, 3) := by decide +kernel
theorem dXm_free_28 : decode cXm_free 28 = .ok (.goto (-26), 3) := by decide +kernel
theorem dXm_free_31 : decode cXm_free 31 = .ok (.return_, 1) := by decide +kernel
theorem dXm_tell_0 : decode cXm_tell 0 = .ok (.aload_n 0, 1) := by decide +kernel
theorem dXm_tell_1 : decode cXm_tell 1 = .ok (.getfield 105, 3) := by decide +kernel
theorem dXm_tell_4 : decode cXm_tell 4 = .ok (.bipush 100, 2) := by decide +kernel
theorem dXm_tell_6 : decode cXm_tell 6 = .ok (.if_icmp .ne 4, 3) := by decide +kernel
theorem dXm_tell_9 : decode cXm_tell 9 = .ok (.return_, 1) := by decide +kernel
theorem dXm_tell_10 : decode cXm_tell 10 = .ok (.aload_n 0, 1) := by decide +kernel
theorem dXm_tell_11 : decode cXm_tell 11 = .ok (.getfield 72, 3) := by decide +kernel
theorem dXm_tell_14 : decode cXm_tell 14 = .ok (.aload_n 0, 1) := by decide +kernel
theorem dXm_tell_15 : decode cXm_tell 15 = .ok (.getfield 105, 3) := by decide +kernel
theorem dXm_tell_18 : decode cXm_tell 18 = .ok (.iload_n 1, 1) := by decide +kernel
theorem dXm_tell_19 : decode cXm_tell 19 = .ok (.iastore, 1) := by decide +kernel
theorem dXm_tell_20 : decode cXm_tell 20 = .ok (.aload_n 0, 1) := by decide +kernel
theorem dXm_tell_21 : decode cXm_tell 21 = .ok (.getfield 75, 3) := by decide +kernel
theorem dXm_tell_24 : decode cXm_tell 24 = .ok (.aload_n 0, 1) := by decide +kernel
theorem dXm_tell_25 : decode cXm_tell 25 = .ok (.getfield 105, 3) := by decide +kernel
theorem dXm_tell_28 : decode cXm_tell 28 = .ok (.iload_n 2, 1) := by decide +kernel
theorem dXm_tell_29 : decode cXm_tell 29 = .ok (.iastore, 1) := by decide +kernel
theorem dXm_tell_30 : decode cXm_tell 30 = .ok (.aload_n 0, 1) := by decide +kernel
theorem dXm_tell_31 : decode cXm_tell 31 = .ok (.getfield 78, 3) := by decide +kernel
theorem dXm_tell_34 : decode cXm_tell 34 = .ok (.aload_n 0, 1) := by decide +kernel
theorem dXm_tell_35 : decode cXm_tell 35 = .ok (.getfield 105, 3) := by decide +kernel
theorem dXm_tell_38 : decode cXm_tell 38 = .ok (.aload_n 0, 1) := by decide +kernel
theorem dXm_tell_39 : decode cXm_tell 39 = .ok (.getfield 29, 3) := by decide +kernel
theorem dXm_tell_42 : decode cXm_tell 42 = .ok (.iload_n 1, 1) := by decide +kernel
theorem dXm_tell_43 : decode cXm_tell 43 = .ok (.iaload, 1) := by decide +kernel
theorem dXm_tell_44 : decode cXm_tell 44 = .ok (.iastore, 1) := by decide +kernel
theorem dXm_tell_45 : decode cXm_tell 45 = .ok (.aload_n 0, 1) := by decide +kernel
theorem dXm_tell_46 : decode cXm_tell 46 = .ok (.getfield 81, 3) := by decide +kernel
theorem dXm_tell_49 : decode cXm_tell 49 = .ok (.aload_n 0, 1) := by decide +kernel
theorem dXm_tell_50 : decode cXm_tell 50 = .ok (.getfield 105, 3) := by decide +kernel
theorem dXm_tell_53 : decode cXm_tell 53 = .ok (.aload_n 0, 1) := by decide +kernel
theorem dXm_tell_54 : decode cXm_tell 54 = .ok (.getfield 108, 3) := by decide +kernel
theorem dXm_tell_57 : decode cXm_tell 57 = .ok (.iastore, 1) := by decide +kernel
theorem dXm_tell_58 : decode cXm_tell 58 = .ok (.aload_n 0, 1) := by decide +kernel
theorem dXm_tell_59 : decode cXm_tell 59 = .ok (.dup, 1) := by decide +kernel
theorem dXm_tell_60 : decode cXm_tell 60 = .ok (.getfield 105, 3) := by decide +kernel
theorem dXm_tell_63 : decode cXm_tell 63 = .ok (.iconst 1, 1) := by decide +kernel
theorem dXm_tell_64 : decode cXm_tell 64 = .ok (.iadd, 1) := by decide +kernel
theorem dXm_tell_65 : decode cXm_tell 65 = .ok (.putfield 105, 3) := by decide +kernel
theorem dXm_tell_68 : decode cXm_tell 68 = .ok (.return_, 1) := by decide +kernel
theorem dXm_drop_0 : decode cXm_drop 0 = .ok (.iconst 0, 1) := by decide +kernel
theorem dXm_drop_1 : decode cXm_drop 1 = .ok (.istore_n 2, 1) := by decide +kernel
theorem dXm_drop_2 : decode cXm_drop 2 = .ok (.iload_n 2, 1) := by decide +kernel
theorem dXm_drop_3 : decode cXm_drop 3 = .ok (.aload_n 0, 1) := by decide +kernel
theorem dXm_drop_4 : decode cXm_drop 4 = .ok (.getfield 102, 3) := by decide +kernel
theorem dXm_drop_7 : decode cXm_drop 7 = .ok (.if_icmp .ge 44, 3) := by decide +kernel
theorem dXm_drop_10 : decode cXm_drop 10 = .ok (.aload_n 0, 1) := by decide +kernel
theorem dXm_drop_11 : decode cXm_drop 11 = .ok (.getfield 69, 3) := by decide +kernel
theorem dXm_drop_14 : decode cXm_drop 14 = .ok (.iload_n 2, 1) := by decide +kernel
theorem dXm_drop_15 : decode cXm_drop 15 = .ok (.baload, 1) := by decide +kernel
theorem dXm_drop_16 : decode cXm_drop 16 = .ok (.ifCond .eq 29, 3) := by decide +kernel
theorem dXm_drop_19 : decode cXm_drop 19 = .ok (.aload_n 0, 1) := by decide +kernel
theorem dXm_drop_20 : decode cXm_drop 20 = .ok (.getfield 63, 3) := by decide +kernel
theorem dXm_drop_23 : decode cXm_drop 23 = .ok (.iload_n 2, 1) := by decide +kernel
theorem dXm_drop_24 : decode cXm_drop 24 = .ok (.iaload, 1) := by decide +kernel
theorem dXm_drop_25 : decode cXm_drop 25 = .ok (.iload_n 1, 1) := by decide +kernel
theorem dXm_drop_26 : decode cXm_drop 26 = .ok (.if_icmp .ne 19, 3) := by decide +kernel
theorem dXm_drop_29 : decode cXm_drop 29 = .ok (.aload_n 0, 1) := by decide +kernel
theorem dXm_drop_30 : decode cXm_drop 30 = .ok (.getfield 66, 3) := by decide +kernel
theorem dXm_drop_33 : decode cXm_drop 33 = .ok (.iload_n 2, 1) := by decide +kernel
theorem dXm_drop_34 : decode cXm_drop 34 = .ok (.iaload, 1) := by decide +kernel
theorem dXm_drop_35 : decode cXm_drop 35 = .ok (.ifCond .ge 10, 3) := by decide +kernel
theorem dXm_drop_38 : decode cXm_drop 38 = .ok (.aload_n 0, 1) := by decide +kernel
theorem dXm_drop_39 : decode cXm_drop 39 = .ok (.getfield 63, 3) := by decide +kernel
theorem dXm_drop_42 : decode cXm_drop 42 = .ok (.iload_n 2, 1) := by decide +kernel
theorem dXm_drop_43 : decode cXm_drop 43 = .ok (.iconst (-1), 1) := by decide +kernel
theorem dXm_drop_44 : decode cXm_drop 44 = .ok (.iastore, 1) := by decide +kernel
theorem dXm_drop_45 : decode cXm_drop 45 = .ok (.iinc 2 1, 3) := by decide +kernel
theorem dXm_drop_48 : decode cXm_drop 48 = .ok (.goto (-46), 3) := by decide +kernel
theorem dXm_drop_51 : decode cXm_drop 51 = .ok (.return_, 1) := by decide +kernel
theorem dXm_fail_0 : decode cXm_fail 0 = .ok (.aload_n 0, 1) := by decide +kernel
theorem dXm_fail_1 : decode cXm_fail 1 = .ok (.iload_n 1, 1) := by decide +kernel
theorem dXm_fail_2 : decode cXm_fail 2 = .ok (.iload_n 2, 1) := by decide +kernel
theorem dXm_fail_3 : decode cXm_fail 3 = .ok (.invokevirtual 111, 3) := by decide +kernel
theorem dXm_fail_6 : decode cXm_fail 6 = .ok (.aload_n 0, 1) := by decide +kernel
theorem dXm_fail_7 : decode cXm_fail 7 = .ok (.getfield 32, 3) := by decide +kernel
theorem dXm_fail_10 : decode cXm_fail 10 = .ok (.iload_n 1, 1) := by decide +kernel
theorem dXm_fail_11 : decode cXm_fail 11 = .ok (.iload_n 2, 1) := by decide +kernel
theorem dXm_fail_12 : decode cXm_fail 12 = .ok (.iastore, 1) := by decide +kernel
theorem dXm_fail_13 : decode cXm_fail 13 = .ok (.aload_n 0, 1) := by decide +kernel
theorem dXm_fail_14 : decode cXm_fail 14 = .ok (.iload_n 1, 1) := by decide +kernel
theorem dXm_fail_15 : decode cXm_fail 15 = .ok (.invokevirtual 115, 3) := by decide +kernel
theorem dXm_fail_18 : decode cXm_fail 18 = .ok (.aload_n 0, 1) := by decide +kernel
theorem dXm_fail_19 : decode cXm_fail 19 = .ok (.iload_n 1, 1) := by decide +kernel
theorem dXm_fail_20 : decode cXm_fail 20 = .ok (.invokevirtual 119, 3) := by decide +kernel
theorem dXm_fail_23 : decode cXm_fail 23 = .ok (.aload_n 0, 1) := by decide +kernel
theorem dXm_fail_24 : decode cXm_fail 24 = .ok (.getfield 48, 3) := by decide +kernel
theorem dXm_fail_27 : decode cXm_fail 27 = .ok (.iload_n 1, 1) := by decide +kernel
theorem dXm_fail_28 : decode cXm_fail 28 = .ok (.iconst 0, 1) := by decide +kernel
theorem dXm_fail_29 : decode cXm_fail 29 = .ok (.bastore, 1) := by decide +kernel
theorem dXm_fail_30 : decode cXm_fail 30 = .ok (.aload_n 0, 1) := by decide +kernel
theorem dXm_fail_31 : decode cXm_fail 31 = .ok (.getfield 51, 3) := by decide +kernel
theorem dXm_fail_34 : decode cXm_fail 34 = .ok (.iload_n 1, 1) := by decide +kernel
theorem dXm_fail_35 : decode cXm_fail 35 = .ok (.iconst 0, 1) := by decide +kernel
theorem dXm_fail_36 : decode cXm_fail 36 = .ok (.bastore, 1) := by decide +kernel
theorem dXm_fail_37 : decode cXm_fail 37 = .ok (.aload_n 0, 1) := by decide +kernel
theorem dXm_fail_38 : decode cXm_fail 38 = .ok (.getfield 38, 3) := by decide +kernel
theorem dXm_fail_41 : decode cXm_fail 41 = .ok (.iload_n 1, 1) := by decide +kernel
theorem dXm_fail_42 : decode cXm_fail 42 = .ok (.iconst 0, 1) := by decide +kernel
theorem dXm_fail_43 : decode cXm_fail 43 = .ok (.iastore, 1) := by decide +kernel
theorem dXm_fail_44 : decode cXm_fail 44 = .ok (.aload_n 0, 1) := by decide +kernel
theorem dXm_fail_45 : decode cXm_fail 45 = .ok (.getfield 29, 3) := by decide +kernel
theorem dXm_fail_48 : decode cXm_fail 48 = .ok (.iload_n 1, 1) := by decide +kernel
theorem dXm_fail_49 : decode cXm_fail 49 = .ok (.iaload, 1) := by decide +kernel
theorem dXm_fail_50 : decode cXm_fail 50 = .ok (.aload_n 0, 1) := by decide +kernel
theorem dXm_fail_51 : decode cXm_fail 51 = .ok (.getfield 23, 3) := by decide +kernel
theorem dXm_fail_54 : decode cXm_fail 54 = .ok (.iload_n 1, 1) := by decide +kernel
theorem dXm_fail_55 : decode cXm_fail 55 = .ok (.iaload, 1) := by decide +kernel
theorem dXm_fail_56 : decode cXm_fail 56 = .ok (.if_icmp .ge 42, 3) := by decide +kernel
theorem dXm_fail_59 : decode cXm_fail 59 = .ok (.aload_n 0, 1) := by decide +kernel
theorem dXm_fail_60 : decode cXm_fail 60 = .ok (.getfield 29, 3) := by decide +kernel
theorem dXm_fail_63 : decode cXm_fail 63 = .ok (.iload_n 1, 1) := by decide +kernel
theorem dXm_fail_64 : decode cXm_fail 64 = .ok (.aload_n 0, 1) := by decide +kernel
theorem dXm_fail_65 : decode cXm_fail 65 = .ok (.getfield 23, 3) := by decide +kernel
theorem dXm_fail_68 : decode cXm_fail 68 = .ok (.iload_n 1, 1) := by decide +kernel
theorem dXm_fail_69 : decode cXm_fail 69 = .ok (.iaload, 1) := by decide +kernel
theorem dXm_fail_70 : decode cXm_fail 70 = .ok (.aload_n 0, 1) := by decide +kernel
theorem dXm_fail_71 : decode cXm_fail 71 = .ok (.getfield 20, 3) := by decide +kernel
theorem dXm_fail_74 : decode cXm_fail 74 = .ok (.iload_n 1, 1) := by decide +kernel
theorem dXm_fail_75 : decode cXm_fail 75 = .ok (.iaload, 1) := by decide +kernel
theorem dXm_fail_76 : decode cXm_fail 76 = .ok (.if_icmp .ge 12, 3) := by decide +kernel
theorem dXm_fail_79 : decode cXm_fail 79 = .ok (.aload_n 0, 1) := by decide +kernel
theorem dXm_fail_80 : decode cXm_fail 80 = .ok (.getfield 23, 3) := by decide +kernel
theorem dXm_fail_83 : decode cXm_fail 83 = .ok (.iload_n 1, 1) := by decide +kernel
theorem dXm_fail_84 : decode cXm_fail 84 = .ok (.iaload, 1) := by decide +kernel
theorem dXm_fail_85 : decode cXm_fail 85 = .ok (.goto 9, 3) := by decide +kernel
theorem dXm_fail_88 : decode cXm_fail 88 = .ok (.aload_n 0, 1) := by decide +kernel
theorem dXm_fail_89 : decode cXm_fail 89 = .ok (.getfield 20, 3) := by decide +kernel
theorem dXm_fail_92 : decode cXm_fail 92 = .ok (.iload_n 1, 1) := by decide +kernel
theorem dXm_fail_93 : decode cXm_fail 93 = .ok (.iaload, 1) := by decide +kernel
theorem dXm_fail_94 : decode cXm_fail 94 = .ok (.iastore, 1) := by decide +kernel
theorem dXm_fail_95 : decode cXm_fail 95 = .ok (.goto 10, 3) := by decide +kernel
theorem dXm_fail_98 : decode cXm_fail 98 = .ok (.aload_n 0, 1) := by decide +kernel
theorem dXm_fail_99 : decode cXm_fail 99 = .ok (.getfield 26, 3) := by decide +kernel
theorem dXm_fail_102 : decode cXm_fail 102 = .ok (.iload_n 1, 1) := by decide +kernel
theorem dXm_fail_103 : decode cXm_fail 103 = .ok (.iconst 1, 1) := by decide +kernel
theorem dXm_fail_104 : decode cXm_fail 104 = .ok (.iastore, 1) := by decide +kernel
theorem dXm_fail_105 : decode cXm_fail 105 = .ok (.iconst 3, 1) := by decide +kernel
theorem dXm_fail_106 : decode cXm_fail 106 = .ok (.ireturn, 1) := by decide +kernel
theorem dXm_done_0 : decode cXm_done 0 = .ok (.aload_n 0, 1) := by decide +kernel
theorem dXm_done_1 : decode cXm_done 1 = .ok (.getfield 29, 3) := by decide +kernel
theorem dXm_done_4 : decode cXm_done 4 = .ok (.iload_n 1, 1) := by decide +kernel
theorem dXm_done_5 : decode cXm_done 5 = .ok (.dup2, 1) := by decide +kernel
theorem dXm_done_6 : decode cXm_done 6 = .ok (.iaload, 1) := by decide +kernel
theorem dXm_done_7 : decode cXm_done 7 = .ok (.iconst 1, 1) := by decide +kernel
theorem dXm_done_8 : decode cXm_done 8 = .ok (.iadd, 1) := by decide +kernel
theorem dXm_done_9 : decode cXm_done 9 = .ok (.iastore, 1) := by decide +kernel
theorem dXm_done_10 : decode cXm_done 10 = .ok (.iconst 1, 1) := by decide +kernel
theorem dXm_done_11 : decode cXm_done 11 = .ok (.ireturn, 1) := by decide +kernel
theorem dXm_hasAbove_0 : decode cXm_hasAbove 0 = .ok (.iconst 0, 1) := by decide +kernel
theorem dXm_hasAbove_1 : decode cXm_hasAbove 1 = .ok (.istore_n 3, 1) := by decide +kernel
theorem dXm_hasAbove_2 : decode cXm_hasAbove 2 = .ok (.iload_n 2, 1) := by decide +kernel
theorem dXm_hasAbove_3 : decode cXm_hasAbove 3 = .ok (.iconst 1, 1) := by decide +kernel
theorem dXm_hasAbove_4 : decode cXm_hasAbove 4 = .ok (.iadd, 1) := by decide +kernel
theorem dXm_hasAbove_5 : decode cXm_hasAbove 5 = .ok (.istore 4, 2) := by decide +kernel
theorem dXm_hasAbove_7 : decode cXm_hasAbove 7 = .ok (.iload 4, 2) := by decide +kernel
theorem dXm_hasAbove_9 : decode cXm_hasAbove 9 = .ok (.bipush 10, 2) := by decide +kernel
theorem dXm_hasAbove_11 : decode cXm_hasAbove 11 = .ok (.if_icmp .ge 30, 3) := by decide +kernel
theorem dXm_hasAbove_14 : decode cXm_hasAbove 14 = .ok (.iload_n 3, 1) := by decide +kernel
theorem dXm_hasAbove_15 : decode cXm_hasAbove 15 = .ok (.ifCond .ne 14, 3) := by decide +kernel
theorem dXm_hasAbove_18 : decode cXm_hasAbove 18 = .ok (.aload_n 0, 1) := by decide +kernel
theorem dXm_hasAbove_19 : decode cXm_hasAbove 19 = .ok (.getfield 54, 3) := by decide +kernel
theorem dXm_hasAbove_22 : decode cXm_hasAbove 22 = .ok (.iload 4, 2) := by decide +kernel
theorem dXm_hasAbove_24 : decode cXm_hasAbove 24 = .ok (.iaload, 1) := by decide +kernel
theorem dXm_hasAbove_25 : decode cXm_hasAbove 25 = .ok (.iload_n 1, 1) := by decide +kernel
theorem dXm_hasAbove_26 : decode cXm_hasAbove 26 = .ok (.if_icmp .ne 7, 3) := by decide +kernel
theorem dXm_hasAbove_29 : decode cXm_hasAbove 29 = .ok (.iconst 1, 1) := by decide +kernel
theorem dXm_hasAbove_30 : decode cXm_hasAbove 30 = .ok (.goto 4, 3) := by decide +kernel
theorem dXm_hasAbove_33 : decode cXm_hasAbove 33 = .ok (.iconst 0, 1) := by decide +kernel
theorem dXm_hasAbove_34 : decode cXm_hasAbove 34 = .ok (.istore_n 3, 1) := by decide +kernel
theorem dXm_hasAbove_35 : decode cXm_hasAbove 35 = .ok (.iinc 4 1, 3) := by decide +kernel
theorem dXm_hasAbove_38 : decode cXm_hasAbove 38 = .ok (.goto (-31), 3) := by decide +kernel
theorem dXm_hasAbove_41 : decode cXm_hasAbove 41 = .ok (.iload_n 3, 1) := by decide +kernel
theorem dXm_hasAbove_42 : decode cXm_hasAbove 42 = .ok (.ireturn, 1) := by decide +kernel
theorem dXm_lock_0 : decode cXm_lock 0 = .ok (.iload_n 2, 1) := by decide +kernel
theorem dXm_lock_1 : decode cXm_lock 1 = .ok (.bipush 9, 2) := by decide +kernel
theorem dXm_lock_3 : decode cXm_lock 3 = .ok (.if_icmp .le 10, 3) := by decide +kernel
theorem dXm_lock_6 : decode cXm_lock 6 = .ok (.aload_n 0, 1) := by decide +kernel
theorem dXm_lock_7 : decode cXm_lock 7 = .ok (.iload_n 1, 1) := by decide +kernel
theorem dXm_lock_8 : decode cXm_lock 8 = .ok (.iconst 3, 1) := by decide +kernel
theorem dXm_lock_9 : decode cXm_lock 9 = .ok (.invokevirtual 122, 3) := by decide +kernel
theorem dXm_lock_12 : decode cXm_lock 12 = .ok (.ireturn, 1) := by decide +kernel
theorem dXm_lock_13 : decode cXm_lock 13 = .ok (.aload_n 0, 1) := by decide +kernel
theorem dXm_lock_14 : decode cXm_lock 14 = .ok (.getfield 54, 3) := by decide +kernel
theorem dXm_lock_17 : decode cXm_lock 17 = .ok (.iload_n 2, 1) := by decide +kernel
theorem dXm_lock_18 : decode cXm_lock 18 = .ok (.iaload, 1) := by decide +kernel
theorem dXm_lock_19 : decode cXm_lock 19 = .ok (.iload_n 1, 1) := by decide +kernel
theorem dXm_lock_20 : decode cXm_lock 20 = .ok (.if_icmp .ne 10, 3) := by decide +kernel
theorem dXm_lock_23 : decode cXm_lock 23 = .ok (.aload_n 0, 1) := by decide +kernel
theorem dXm_lock_24 : decode cXm_lock 24 = .ok (.iload_n 1, 1) := by decide +kernel
theorem dXm_lock_25 : decode cXm_lock 25 = .ok (.iconst 1, 1) := by decide +kernel
theorem dXm_lock_26 : decode cXm_lock 26 = .ok (.invokevirtual 122, 3) := by decide +kernel
theorem dXm_lock_29 : decode cXm_lock 29 = .ok (.ireturn, 1) := by decide +kernel
theorem dXm_lock_30 : decode cXm_lock 30 = .ok (.aload_n 0, 1) := by decide +kernel
theorem dXm_lock_31 : decode cXm_lock 31 = .ok (.iload_n 1, 1) := by decide +kernel
theorem dXm_lock_32 : decode cXm_lock 32 = .ok (.iload_n 2, 1) := by decide +kernel
theorem dXm_lock_33 : decode cXm_lock 33 = .ok (.invokevirtual 126, 3) := by decide +kernel
theorem dXm_lock_36 : decode cXm_lock 36 = .ok (.ifCond .eq 10, 3) := by decide +kernel
theorem dXm_lock_39 : decode cXm_lock 39 = .ok (.aload_n 0, 1) := by decide +kernel
theorem dXm_lock_40 : decode cXm_lock 40 = .ok (.iload_n 1, 1) := by decide +kernel
theorem dXm_lock_41 : decode cXm_lock 41 = .ok (.iconst 2, 1) := by decide +kernel
theorem dXm_lock_42 : decode cXm_lock 42 = .ok (.invokevirtual 122, 3) := by decide +kernel
theorem dXm_lock_45 : decode cXm_lock 45 = .ok (.ireturn, 1) := by decide +kernel
theorem dXm_lock_46 : decode cXm_lock 46 = .ok (.aload_n 0, 1) := by decide +kernel
theorem dXm_lock_47 : decode cXm_lock 47 = .ok (.getfield 54, 3) := by decide +kernel
theorem dXm_lock_50 : decode cXm_lock 50 = .ok (.iload_n 2, 1) := by decide +kernel
theorem dXm_lock_51 : decode cXm_lock 51 = .ok (.iaload, 1) := by decide +kernel
theorem dXm_lock_52 : decode cXm_lock 52 = .ok (.ifCond .lt 5, 3) := by decide +kernel
theorem dXm_lock_55 : decode cXm_lock 55 = .ok (.iconst 0, 1) := by decide +kernel
theorem dXm_lock_56 : decode cXm_lock 56 = .ok (.ireturn, 1) := by decide +kernel
theorem dXm_lock_57 : decode cXm_lock 57 = .ok (.aload_n 0, 1) := by decide +kernel
theorem dXm_lock_58 : decode cXm_lock 58 = .ok (.getfield 54, 3) := by decide +kernel
theorem dXm_lock_61 : decode cXm_lock 61 = .ok (.iload_n 2, 1) := by decide +kernel
theorem dXm_lock_62 : decode cXm_lock 62 = .ok (.iload_n 1, 1) := by decide +kernel
theorem dXm_lock_63 : decode cXm_lock 63 = .ok (.iastore, 1) := by decide +kernel
theorem dXm_lock_64 : decode cXm_lock 64 = .ok (.aload_n 0, 1) := by decide +kernel
theorem dXm_lock_65 : decode cXm_lock 65 = .ok (.iload_n 1, 1) := by decide +kernel
theorem dXm_lock_66 : decode cXm_lock 66 = .ok (.invokevirtual 130, 3) := by decide +kernel
theorem dXm_lock_69 : decode cXm_lock 69 = .ok (.ireturn, 1) := by decide +kernel
theorem dXm_unlock_0 : decode cXm_unlock 0 = .ok (.iload_n 2, 1) := by decide +kernel
theorem dXm_unlock_1 : decode cXm_unlock 1 = .ok (.bipush 9, 2) := by decide +kernel
theorem dXm_unlock_3 : decode cXm_unlock 3 = .ok (.if_icmp .gt 13, 3) := by decide +kernel
theorem dXm_unlock_6 : decode cXm_unlock 6 = .ok (.aload_n 0, 1) := by decide +kernel
theorem dXm_unlock_7 : decode cXm_unlock 7 = .ok (.getfield 54, 3) := by decide +kernel
theorem dXm_unlock_10 : decode cXm_unlock 10 = .ok (.iload_n 2, 1) := by decide +kernel
theorem dXm_unlock_11 : decode cXm_unlock 11 = .ok (.iaload, 1) := by decide +kernel
theorem dXm_unlock_12 : decode cXm_unlock 12 = .ok (.iload_n 1, 1) := by decide +kernel
theorem dXm_unlock_13 : decode cXm_unlock 13 = .ok (.if_icmp .eq 10, 3) := by decide +kernel
theorem dXm_unlock_16 : decode cXm_unlock 16 = .ok (.aload_n 0, 1) := by decide +kernel
theorem dXm_unlock_17 : decode cXm_unlock 17 = .ok (.iload_n 1, 1) := by decide +kernel
theorem dXm_unlock_18 : decode cXm_unlock 18 = .ok (.iconst 3, 1) := by decide +kernel
theorem dXm_unlock_19 : decode cXm_unlock 19 = .ok (.invokevirtual 122, 3) := by decide +kernel
theorem dXm_unlock_22 : decode cXm_unlock 22 = .ok (.ireturn, 1) := by decide +kernel
theorem dXm_unlock_23 : decode cXm_unlock 23 = .ok (.aload_n 0, 1) := by decide +kernel
theorem dXm_unlock_24 : decode cXm_unlock 24 = .ok (.getfield 54, 3) := by decide +kernel
theorem dXm_unlock_27 : decode cXm_unlock 27 = .ok (.iload_n 2, 1) := by decide +kernel
theorem dXm_unlock_28 : decode cXm_unlock 28 = .ok (.iconst (-1), 1) := by decide +kernel
theorem dXm_unlock_29 : decode cXm_unlock 29 = .ok (.iastore, 1) := by decide +kernel
theorem dXm_unlock_30 : decode cXm_unlock 30 = .ok (.aload_n 0, 1) := by decide +kernel
theorem dXm_unlock_31 : decode cXm_unlock 31 = .ok (.iload_n 1, 1) := by decide +kernel
theorem dXm_unlock_32 : decode cXm_unlock 32 = .ok (.invokevirtual 130, 3) := by decide +kernel
theorem dXm_unlock_35 : decode cXm_unlock 35 = .ok (.ireturn, 1) := by decide +kernel
theorem dXm_take_0 : decode cXm_take 0 = .ok (.iload_n 2, 1) := by decide +kernel
theorem dXm_take_1 : decode cXm_take 1 = .ok (.aload_n 0, 1) := by decide +kernel
theorem dXm_take_2 : decode cXm_take 2 = .ok (.getfield 102, 3) := by decide +kernel
theorem dXm_take_5 : decode cXm_take 5 = .ok (.if_icmp .ge 12, 3) := by decide +kernel
theorem dXm_take_8 : decode cXm_take 8 = .ok (.aload_n 0, 1) := by decide +kernel
theorem dXm_take_9 : decode cXm_take 9 = .ok (.getfield 69, 3) := by decide +kernel
theorem dXm_take_12 : decode cXm_take 12 = .ok (.iload_n 2, 1) := by decide +kernel
theorem dXm_take_13 : decode cXm_take 13 = .ok (.baload, 1) := by decide +kernel
theorem dXm_take_14 : decode cXm_take 14 = .ok (.ifCond .ne 11, 3) := by decide +kernel
theorem dXm_take_17 : decode cXm_take 17 = .ok (.aload_n 0, 1) := by decide +kernel
theorem dXm_take_18 : decode cXm_take 18 = .ok (.iload_n 1, 1) := by decide +kernel
theorem dXm_take_19 : decode cXm_take 19 = .ok (.bipush 6, 2) := by decide +kernel
theorem dXm_take_21 : decode cXm_take 21 = .ok (.invokevirtual 122, 3) := by decide +kernel
theorem dXm_take_24 : decode cXm_take 24 = .ok (.ireturn, 1) := by decide +kernel
theorem dXm_take_25 : decode cXm_take 25 = .ok (.aload_n 0, 1) := by decide +kernel
theorem dXm_take_26 : decode cXm_take 26 = .ok (.getfield 63, 3) := by decide +kernel
theorem dXm_take_29 : decode cXm_take 29 = .ok (.iload_n 2, 1) := by decide +kernel
theorem dXm_take_30 : decode cXm_take 30 = .ok (.iaload, 1) := by decide +kernel
theorem dXm_take_31 : decode cXm_take 31 = .ok (.ifCond .lt 31, 3) := by decide +kernel
theorem dXm_take_34 : decode cXm_take 34 = .ok (.aload_n 0, 1) := by decide +kernel
theorem dXm_take_35 : decode cXm_take 35 = .ok (.getfield 63, 3) := by decide +kernel
theorem dXm_take_38 : decode cXm_take 38 = .ok (.iload_n 2, 1) := by decide +kernel
theorem dXm_take_39 : decode cXm_take 39 = .ok (.iaload, 1) := by decide +kernel
theorem dXm_take_40 : decode cXm_take 40 = .ok (.iload_n 1, 1) := by decide +kernel
theorem dXm_take_41 : decode cXm_take 41 = .ok (.if_icmp .eq 21, 3) := by decide +kernel
theorem dXm_take_44 : decode cXm_take 44 = .ok (.aload_n 0, 1) := by decide +kernel
theorem dXm_take_45 : decode cXm_take 45 = .ok (.iload_n 1, 1) := by decide +kernel
theorem dXm_take_46 : decode cXm_take 46 = .ok (.iconst 0, 1) := by decide +kernel
theorem dXm_take_47 : decode cXm_take 47 = .ok (.invokevirtual 111, 3) := by decide +kernel
theorem dXm_take_50 : decode cXm_take 50 = .ok (.aload_n 0, 1) := by decide +kernel
theorem dXm_take_51 : decode cXm_take 51 = .ok (.getfield 29, 3) := by decide +kernel
theorem dXm_take_54 : decode cXm_take 54 = .ok (.iload_n 1, 1) := by decide +kernel
theorem dXm_take_55 : decode cXm_take 55 = .ok (.dup2, 1) := by decide +kernel
theorem dXm_take_56 : decode cXm_take 56 = .ok (.iaload, 1) := by decide +kernel
theorem dXm_take_57 : decode cXm_take 57 = .ok (.iconst 1, 1) := by decide +kernel
theorem dXm_take_58 : decode cXm_take 58 = .ok (.iadd, 1) := by decide +kernel
theorem dXm_take_59 : decode cXm_take 59 = .ok (.iastore, 1) := by decide +kernel
theorem dXm_take_60 : decode cXm_take 60 = .ok (.iconst 2, 1) := by decide +kernel
theorem dXm_take_61 : decode cXm_take 61 = .ok (.ireturn, 1) := by decide +kernel
theorem dXm_take_62 : decode cXm_take 62 = .ok (.aload_n 0, 1) := by decide +kernel
theorem dXm_take_63 : decode cXm_take 63 = .ok (.getfield 63, 3) := by decide +kernel
theorem dXm_take_66 : decode cXm_take 66 = .ok (.iload_n 2, 1) := by decide +kernel
theorem dXm_take_67 : decode cXm_take 67 = .ok (.iload_n 1, 1) := by decide +kernel
theorem dXm_take_68 : decode cXm_take 68 = .ok (.iastore, 1) := by decide +kernel
theorem dXm_take_69 : decode cXm_take 69 = .ok (.aload_n 0, 1) := by decide +kernel
theorem dXm_take_70 : decode cXm_take 70 = .ok (.iload_n 1, 1) := by decide +kernel
theorem dXm_take_71 : decode cXm_take 71 = .ok (.invokevirtual 130, 3) := by decide +kernel
theorem dXm_take_74 : decode cXm_take 74 = .ok (.ireturn, 1) := by decide +kernel
theorem dXm_isOwn_0 : decode cXm_isOwn 0 = .ok (.iload_n 2, 1) := by decide +kernel
theorem dXm_isOwn_1 : decode cXm_isOwn 1 = .ok (.aload_n 0, 1) := by decide +kernel
theorem dXm_isOwn_2 : decode cXm_isOwn 2 = .ok (.getfield 102, 3) := by decide +kernel
theorem dXm_isOwn_5 : decode cXm_isOwn 5 = .ok (.if_icmp .ge 26, 3) := by decide +kernel
theorem dXm_isOwn_8 : decode cXm_isOwn 8 = .ok (.aload_n 0, 1) := by decide +kernel
theorem dXm_isOwn_9 : decode cXm_isOwn 9 = .ok (.getfield 69, 3) := by decide +kernel
theorem dXm_isOwn_12 : decode cXm_isOwn 12 = .ok (.iload_n 2, 1) := by decide +kernel
theorem dXm_isOwn_13 : decode cXm_isOwn 13 = .ok (.baload, 1) := by decide +kernel
theorem dXm_isOwn_14 : decode cXm_isOwn 14 = .ok (.ifCond .eq 17, 3) := by decide +kernel
theorem dXm_isOwn_17 : decode cXm_isOwn 17 = .ok (.aload_n 0, 1) := by decide +kernel
theorem dXm_isOwn_18 : decode cXm_isOwn 18 = .ok (.getfield 63, 3) := by decide +kernel
theorem dXm_isOwn_21 : decode cXm_isOwn 21 = .ok (.iload_n 2, 1) := by decide +kernel
theorem dXm_isOwn_22 : decode cXm_isOwn 22 = .ok (.iaload, 1) := by decide +kernel
theorem dXm_isOwn_23 : decode cXm_isOwn 23 = .ok (.iload_n 1, 1) := by decide +kernel
theorem dXm_isOwn_24 : decode cXm_isOwn 24 = .ok (.if_icmp .ne 7, 3) := by decide +kernel
theorem dXm_isOwn_27 : decode cXm_isOwn 27 = .ok (.iconst 1, 1) := by decide +kernel
theorem dXm_isOwn_28 : decode cXm_isOwn 28 = .ok (.goto 4, 3) := by decide +kernel
theorem dXm_isOwn_31 : decode cXm_isOwn 31 = .ok (.iconst 0, 1) := by decide +kernel
theorem dXm_isOwn_32 : decode cXm_isOwn 32 = .ok (.ireturn, 1) := by decide +kernel
theorem dXm_send_0 : decode cXm_send 0 = .ok (.iload_n 2, 1) := by decide +kernel
theorem dXm_send_1 : decode cXm_send 1 = .ok (.bipush 9, 2) := by decide +kernel
theorem dXm_send_3 : decode cXm_send 3 = .ok (.if_icmp .gt 16, 3) := by decide +kernel
theorem dXm_send_6 : decode cXm_send 6 = .ok (.aload_n 0, 1) := by decide +kernel
theorem dXm_send_7 : decode cXm_send 7 = .ok (.iload_n 1, 1) := by decide +kernel
theorem dXm_send_8 : decode cXm_send 8 = .ok (.iload_n 3, 1) := by decide +kernel
theorem dXm_send_9 : decode cXm_send 9 = .ok (.invokevirtual 134, 3) := by decide +kernel
theorem dXm_send_12 : decode cXm_send 12 = .ok (.ifCond .eq 7, 3) := by decide +kernel
theorem dXm_send_15 : decode cXm_send 15 = .ok (.iconst 1, 1) := by decide +kernel
theorem dXm_send_16 : decode cXm_send 16 = .ok (.goto 4, 3) := by decide +kernel
theorem dXm_send_19 : decode cXm_send 19 = .ok (.iconst 0, 1) := by decide +kernel
theorem dXm_send_20 : decode cXm_send 20 = .ok (.istore 4, 2) := by decide +kernel
theorem dXm_send_22 : decode cXm_send 22 = .ok (.iload 4, 2) := by decide +kernel
theorem dXm_send_24 : decode cXm_send 24 = .ok (.ifCond .eq 31, 3) := by decide +kernel
theorem dXm_send_27 : decode cXm_send 27 = .ok (.aload_n 0, 1) := by decide +kernel
theorem dXm_send_28 : decode cXm_send 28 = .ok (.getfield 54, 3) := by decide +kernel
theorem dXm_send_31 : decode cXm_send 31 = .ok (.iload_n 2, 1) := by decide +kernel
theorem dXm_send_32 : decode cXm_send 32 = .ok (.iaload, 1) := by decide +kernel
theorem dXm_send_33 : decode cXm_send 33 = .ok (.iload_n 1, 1) := by decide +kernel
theorem dXm_send_34 : decode cXm_send 34 = .ok (.if_icmp .ne 21, 3) := by decide +kernel
theorem dXm_send_37 : decode cXm_send 37 = .ok (.aload_n 0, 1) := by decide +kernel
theorem dXm_send_38 : decode cXm_send 38 = .ok (.getfield 57, 3) := by decide +kernel
theorem dXm_send_41 : decode cXm_send 41 = .ok (.iload_n 2, 1) := by decide +kernel
theorem dXm_send_42 : decode cXm_send 42 = .ok (.iaload, 1) := by decide +kernel
theorem dXm_send_43 : decode cXm_send 43 = .ok (.ifCond .ge 12, 3) := by decide +kernel
theorem dXm_send_46 : decode cXm_send 46 = .ok (.aload_n 0, 1) := by decide +kernel
theorem dXm_send_47 : decode cXm_send 47 = .ok (.getfield 66, 3) := by decide +kernel
theorem dXm_send_50 : decode cXm_send 50 = .ok (.iload_n 3, 1) := by decide +kernel
theorem dXm_send_51 : decode cXm_send 51 = .ok (.iaload, 1) := by decide +kernel
theorem dXm_send_52 : decode cXm_send 52 = .ok (.ifCond .lt 10, 3) := by decide +kernel
theorem dXm_send_55 : decode cXm_send 55 = .ok (.aload_n 0, 1) := by decide +kernel
theorem dXm_send_56 : decode cXm_send 56 = .ok (.iload_n 1, 1) := by decide +kernel
theorem dXm_send_57 : decode cXm_send 57 = .ok (.iconst 4, 1) := by decide +kernel
theorem dXm_send_58 : decode cXm_send 58 = .ok (.invokevirtual 122, 3) := by decide +kernel
theorem dXm_send_61 : decode cXm_send 61 = .ok (.ireturn, 1) := by decide +kernel
theorem dXm_send_62 : decode cXm_send 62 = .ok (.aload_n 0, 1) := by decide +kernel
theorem dXm_send_63 : decode cXm_send 63 = .ok (.getfield 57, 3) := by decide +kernel
theorem dXm_send_66 : decode cXm_send 66 = .ok (.iload_n 2, 1) := by decide +kernel
theorem dXm_send_67 : decode cXm_send 67 = .ok (.iload_n 3, 1) := by decide +kernel
theorem dXm_send_68 : decode cXm_send 68 = .ok (.iastore, 1) := by decide +kernel
theorem dXm_send_69 : decode cXm_send 69 = .ok (.aload_n 0, 1) := by decide +kernel
theorem dXm_send_70 : decode cXm_send 70 = .ok (.getfield 66, 3) := by decide +kernel
theorem dXm_send_73 : decode cXm_send 73 = .ok (.iload_n 3, 1) := by decide +kernel
theorem dXm_send_74 : decode cXm_send 74 = .ok (.iload_n 2, 1) := by decide +kernel
theorem dXm_send_75 : decode cXm_send 75 = .ok (.iastore, 1) := by decide +kernel
theorem dXm_send_76 : decode cXm_send 76 = .ok (.aload_n 0, 1) := by decide +kernel
theorem dXm_send_77 : decode cXm_send 77 = .ok (.iload_n 1, 1) := by decide +kernel
theorem dXm_send_78 : decode cXm_send 78 = .ok (.invokevirtual 130, 3) := by decide +kernel
theorem dXm_send_81 : decode cXm_send 81 = .ok (.ireturn, 1) := by decide +kernel
theorem dXm_shut_0 : decode cXm_shut 0 = .ok (.aload_n 0, 1) := by decide +kernel
theorem dXm_shut_1 : decode cXm_shut 1 = .ok (.iload_n 1, 1) := by decide +kernel
theorem dXm_shut_2 : decode cXm_shut 2 = .ok (.iload_n 2, 1) := by decide +kernel
theorem dXm_shut_3 : decode cXm_shut 3 = .ok (.invokevirtual 134, 3) := by decide +kernel
theorem dXm_shut_6 : decode cXm_shut 6 = .ok (.ifCond .ne 10, 3) := by decide +kernel
theorem dXm_shut_9 : decode cXm_shut 9 = .ok (.aload_n 0, 1) := by decide +kernel
theorem dXm_shut_10 : decode cXm_shut 10 = .ok (.iload_n 1, 1) := by decide +kernel
theorem dXm_shut_11 : decode cXm_shut 11 = .ok (.iconst 4, 1) := by decide +kernel
theorem dXm_shut_12 : decode cXm_shut 12 = .ok (.invokevirtual 122, 3) := by decide +kernel
theorem dXm_shut_15 : decode cXm_shut 15 = .ok (.ireturn, 1) := by decide +kernel
theorem dXm_shut_16 : decode cXm_shut 16 = .ok (.aload_n 0, 1) := by decide +kernel
theorem dXm_shut_17 : decode cXm_shut 17 = .ok (.getfield 69, 3) := by decide +kernel
theorem dXm_shut_20 : decode cXm_shut 20 = .ok (.iload_n 2, 1) := by decide +kernel
theorem dXm_shut_21 : decode cXm_shut 21 = .ok (.iconst 0, 1) := by decide +kernel
theorem dXm_shut_22 : decode cXm_shut 22 = .ok (.bastore, 1) := by decide +kernel
theorem dXm_shut_23 : decode cXm_shut 23 = .ok (.aload_n 0, 1) := by decide +kernel
theorem dXm_shut_24 : decode cXm_shut 24 = .ok (.getfield 66, 3) := by decide +kernel
theorem dXm_shut_27 : decode cXm_shut 27 = .ok (.iload_n 2, 1) := by decide +kernel
theorem dXm_shut_28 : decode cXm_shut 28 = .ok (.iaload, 1) := by decide +kernel
theorem dXm_shut_29 : decode cXm_shut 29 = .ok (.ifCond .lt 15, 3) := by decide +kernel
theorem dXm_shut_32 : decode cXm_shut 32 = .ok (.aload_n 0, 1) := by decide +kernel
theorem dXm_shut_33 : decode cXm_shut 33 = .ok (.getfield 57, 3) := by decide +kernel
theorem dXm_shut_36 : decode cXm_shut 36 = .ok (.aload_n 0, 1) := by decide +kernel
theorem dXm_shut_37 : decode cXm_shut 37 = .ok (.getfield 66, 3) := by decide +kernel
theorem dXm_shut_40 : decode cXm_shut 40 = .ok (.iload_n 2, 1) := by decide +kernel
theorem dXm_shut_41 : decode cXm_shut 41 = .ok (.iaload, 1) := by decide +kernel
theorem dXm_shut_42 : decode cXm_shut 42 = .ok (.iconst (-1), 1) := by decide +kernel
theorem dXm_shut_43 : decode cXm_shut 43 = .ok (.iastore, 1) := by decide +kernel
theorem dXm_shut_44 : decode cXm_shut 44 = .ok (.aload_n 0, 1) := by decide +kernel
theorem dXm_shut_45 : decode cXm_shut 45 = .ok (.getfield 66, 3) := by decide +kernel
theorem dXm_shut_48 : decode cXm_shut 48 = .ok (.iload_n 2, 1) := by decide +kernel
theorem dXm_shut_49 : decode cXm_shut 49 = .ok (.iconst (-1), 1) := by decide +kernel
theorem dXm_shut_50 : decode cXm_shut 50 = .ok (.iastore, 1) := by decide +kernel
theorem dXm_shut_51 : decode cXm_shut 51 = .ok (.aload_n 0, 1) := by decide +kernel
theorem dXm_shut_52 : decode cXm_shut 52 = .ok (.iload_n 1, 1) := by decide +kernel
theorem dXm_shut_53 : decode cXm_shut 53 = .ok (.invokevirtual 130, 3) := by decide +kernel
theorem dXm_shut_56 : decode cXm_shut 56 = .ok (.ireturn, 1) := by decide +kernel
theorem dXm_rest_0 : decode cXm_rest 0 = .ok (.iload_n 2, 1) := by decide +kernel
theorem dXm_rest_1 : decode cXm_rest 1 = .ok (.ifCond .ne 9, 3) := by decide +kernel
theorem dXm_rest_4 : decode cXm_rest 4 = .ok (.aload_n 0, 1) := by decide +kernel
theorem dXm_rest_5 : decode cXm_rest 5 = .ok (.iload_n 1, 1) := by decide +kernel
theorem dXm_rest_6 : decode cXm_rest 6 = .ok (.invokevirtual 130, 3) := by decide +kernel
theorem dXm_rest_9 : decode cXm_rest 9 = .ok (.ireturn, 1) := by decide +kernel
theorem dXm_rest_10 : decode cXm_rest 10 = .ok (.aload_n 0, 1) := by decide +kernel
theorem dXm_rest_11 : decode cXm_rest 11 = .ok (.getfield 48, 3) := by decide +kernel
theorem dXm_rest_14 : decode cXm_rest 14 = .ok (.iload_n 1, 1) := by decide +kernel
theorem dXm_rest_15 : decode cXm_rest 15 = .ok (.baload, 1) := by decide +kernel
theorem dXm_rest_16 : decode cXm_rest 16 = .ok (.ifCond .eq 12, 3) := by decide +kernel
theorem dXm_rest_19 : decode cXm_rest 19 = .ok (.aload_n 0, 1) := by decide +kernel
theorem dXm_rest_20 : decode cXm_rest 20 = .ok (.getfield 51, 3) := by decide +kernel
theorem dXm_rest_23 : decode cXm_rest 23 = .ok (.iload_n 1, 1) := by decide +kernel
theorem dXm_rest_24 : decode cXm_rest 24 = .ok (.baload, 1) := by decide +kernel
theorem dXm_rest_25 : decode cXm_rest 25 = .ok (.ifCond .eq 49, 3) := by decide +kernel
theorem dXm_rest_28 : decode cXm_rest 28 = .ok (.aload_n 0, 1) := by decide +kernel
theorem dXm_rest_29 : decode cXm_rest 29 = .ok (.getfield 41, 3) := by decide +kernel
theorem dXm_rest_32 : decode cXm_rest 32 = .ok (.iload_n 1, 1) := by decide +kernel
theorem dXm_rest_33 : decode cXm_rest 33 = .ok (.dup2, 1) := by decide +kernel
theorem dXm_rest_34 : decode cXm_rest 34 = .ok (.iaload, 1) := by decide +kernel
theorem dXm_rest_35 : decode cXm_rest 35 = .ok (.aload_n 0, 1) := by decide +kernel
theorem dXm_rest_36 : decode cXm_rest 36 = .ok (.getfield 51, 3) := by decide +kernel
theorem dXm_rest_39 : decode cXm_rest 39 = .ok (.iload_n 1, 1) := by decide +kernel
theorem dXm_rest_40 : decode cXm_rest 40 = .ok (.baload, 1) := by decide +kernel
theorem dXm_rest_41 : decode cXm_rest 41 = .ok (.ifCond .eq 7, 3) := by decide +kernel
theorem dXm_rest_44 : decode cXm_rest 44 = .ok (.iconst 1, 1) := by decide +kernel
theorem dXm_rest_45 : decode cXm_rest 45 = .ok (.goto 4, 3) := by decide +kernel
theorem dXm_rest_48 : decode cXm_rest 48 = .ok (.iconst 0, 1) := by decide +kernel
theorem dXm_rest_49 : decode cXm_rest 49 = .ok (.iadd, 1) := by decide +kernel
theorem dXm_rest_50 : decode cXm_rest 50 = .ok (.iastore, 1) := by decide +kernel
theorem dXm_rest_51 : decode cXm_rest 51 = .ok (.aload_n 0, 1) := by decide +kernel
theorem dXm_rest_52 : decode cXm_rest 52 = .ok (.getfield 48, 3) := by decide +kernel
theorem dXm_rest_55 : decode cXm_rest 55 = .ok (.iload_n 1, 1) := by decide +kernel
theorem dXm_rest_56 : decode cXm_rest 56 = .ok (.iconst 1, 1) := by decide +kernel
theorem dXm_rest_57 : decode cXm_rest 57 = .ok (.bastore, 1) := by decide +kernel
theorem dXm_rest_58 : decode cXm_rest 58 = .ok (.aload_n 0, 1) := by decide +kernel
theorem dXm_rest_59 : decode cXm_rest 59 = .ok (.getfield 51, 3) := by decide +kernel
theorem dXm_rest_62 : decode cXm_rest 62 = .ok (.iload_n 1, 1) := by decide +kernel
theorem dXm_rest_63 : decode cXm_rest 63 = .ok (.iconst 0, 1) := by decide +kernel
theorem dXm_rest_64 : decode cXm_rest 64 = .ok (.bastore, 1) := by decide +kernel
theorem dXm_rest_65 : decode cXm_rest 65 = .ok (.aload_n 0, 1) := by decide +kernel
theorem dXm_rest_66 : decode cXm_rest 66 = .ok (.getfield 38, 3) := by decide +kernel
theorem dXm_rest_69 : decode cXm_rest 69 = .ok (.iload_n 1, 1) := by decide +kernel
theorem dXm_rest_70 : decode cXm_rest 70 = .ok (.iload_n 2, 1) := by decide +kernel
theorem dXm_rest_71 : decode cXm_rest 71 = .ok (.iastore, 1) := by decide +kernel
theorem dXm_rest_72 : decode cXm_rest 72 = .ok (.iconst 5, 1) := by decide +kernel
theorem dXm_rest_73 : decode cXm_rest 73 = .ok (.ireturn, 1) := by decide +kernel
theorem dXm_rest_74 : decode cXm_rest 74 = .ok (.aload_n 0, 1) := by decide +kernel
theorem dXm_rest_75 : decode cXm_rest 75 = .ok (.getfield 38, 3) := by decide +kernel
theorem dXm_rest_78 : decode cXm_rest 78 = .ok (.iload_n 1, 1) := by decide +kernel
theorem dXm_rest_79 : decode cXm_rest 79 = .ok (.dup2, 1) := by decide +kernel
theorem dXm_rest_80 : decode cXm_rest 80 = .ok (.iaload, 1) := by decide +kernel
theorem dXm_rest_81 : decode cXm_rest 81 = .ok (.iconst 1, 1) := by decide +kernel
theorem dXm_rest_82 : decode cXm_rest 82 = .ok (.isub, 1) := by decide +kernel
theorem dXm_rest_83 : decode cXm_rest 83 = .ok (.iastore, 1) := by decide +kernel
theorem dXm_rest_84 : decode cXm_rest 84 = .ok (.aload_n 0, 1) := by decide +kernel
theorem dXm_rest_85 : decode cXm_rest 85 = .ok (.getfield 38, 3) := by decide +kernel
theorem dXm_rest_88 : decode cXm_rest 88 = .ok (.iload_n 1, 1) := by decide +kernel
theorem dXm_rest_89 : decode cXm_rest 89 = .ok (.iaload, 1) := by decide +kernel
theorem dXm_rest_90 : decode cXm_rest 90 = .ok (.ifCond .le 5, 3) := by decide +kernel
theorem dXm_rest_93 : decode cXm_rest 93 = .ok (.iconst 5, 1) := by decide +kernel
theorem dXm_rest_94 : decode cXm_rest 94 = .ok (.ireturn, 1) := by decide +kernel
theorem dXm_rest_95 : decode cXm_rest 95 = .ok (.aload_n 0, 1) := by decide +kernel
theorem dXm_rest_96 : decode cXm_rest 96 = .ok (.getfield 48, 3) := by decide +kernel
theorem dXm_rest_99 : decode cXm_rest 99 = .ok (.iload_n 1, 1) := by decide +kernel
theorem dXm_rest_100 : decode cXm_rest 100 = .ok (.iconst 0, 1) := by decide +kernel
theorem dXm_rest_101 : decode cXm_rest 101 = .ok (.bastore, 1) := by decide +kernel
theorem dXm_rest_102 : decode cXm_rest 102 = .ok (.aload_n 0, 1) := by decide +kernel
theorem dXm_rest_103 : decode cXm_rest 103 = .ok (.iload_n 1, 1) := by decide +kernel
theorem dXm_rest_104 : decode cXm_rest 104 = .ok (.invokevirtual 130, 3) := by decide +kernel
theorem dXm_rest_107 : decode cXm_rest 107 = .ok (.ireturn, 1) := by decide +kernel
theorem dXm_end_0 : decode cXm_end 0 = .ok (.aload_n 0, 1) := by decide +kernel
theorem dXm_end_1 : decode cXm_end 1 = .ok (.getfield 26, 3) := by decide +kernel
theorem dXm_end_4 : decode cXm_end 4 = .ok (.iload_n 1, 1) := by decide +kernel
theorem dXm_end_5 : decode cXm_end 5 = .ok (.iconst 1, 1) := by decide +kernel
theorem dXm_end_6 : decode cXm_end 6 = .ok (.iastore, 1) := by decide +kernel
theorem dXm_end_7 : decode cXm_end 7 = .ok (.aload_n 0, 1) := by decide +kernel
theorem dXm_end_8 : decode cXm_end 8 = .ok (.iload_n 1, 1) := by decide +kernel
theorem dXm_end_9 : decode cXm_end 9 = .ok (.invokevirtual 115, 3) := by decide +kernel
theorem dXm_end_12 : decode cXm_end 12 = .ok (.return_, 1) := by decide +kernel
theorem dXm_turn_0 : decode cXm_turn 0 = .ok (.aload_n 0, 1) := by decide +kernel
theorem dXm_turn_1 : decode cXm_turn 1 = .ok (.dup, 1) := by decide +kernel
theorem dXm_turn_2 : decode cXm_turn 2 = .ok (.getfield 108, 3) := by decide +kernel
theorem dXm_turn_5 : decode cXm_turn 5 = .ok (.iconst 1, 1) := by decide +kernel
theorem dXm_turn_6 : decode cXm_turn 6 = .ok (.iadd, 1) := by decide +kernel
theorem dXm_turn_7 : decode cXm_turn 7 = .ok (.putfield 108, 3) := by decide +kernel
theorem dXm_turn_10 : decode cXm_turn 10 = .ok (.aload_n 0, 1) := by decide +kernel
theorem dXm_turn_11 : decode cXm_turn 11 = .ok (.getfield 44, 3) := by decide +kernel
theorem dXm_turn_14 : decode cXm_turn 14 = .ok (.iload_n 1, 1) := by decide +kernel
theorem dXm_turn_15 : decode cXm_turn 15 = .ok (.iconst 1, 1) := by decide +kernel
theorem dXm_turn_16 : decode cXm_turn 16 = .ok (.bastore, 1) := by decide +kernel
theorem dXm_turn_17 : decode cXm_turn 17 = .ok (.iconst 0, 1) := by decide +kernel
theorem dXm_turn_18 : decode cXm_turn 18 = .ok (.istore_n 2, 1) := by decide +kernel
theorem dXm_turn_19 : decode cXm_turn 19 = .ok (.iload_n 2, 1) := by decide +kernel
theorem dXm_turn_20 : decode cXm_turn 20 = .ok (.bipush 8, 2) := by decide +kernel
theorem dXm_turn_22 : decode cXm_turn 22 = .ok (.if_icmp .ge 37, 3) := by decide +kernel
theorem dXm_turn_25 : decode cXm_turn 25 = .ok (.aload_n 0, 1) := by decide +kernel
theorem dXm_turn_26 : decode cXm_turn 26 = .ok (.getfield 26, 3) := by decide +kernel
theorem dXm_turn_29 : decode cXm_turn 29 = .ok (.iload_n 2, 1) := by decide +kernel
theorem dXm_turn_30 : decode cXm_turn 30 = .ok (.iaload, 1) := by decide +kernel
theorem dXm_turn_31 : decode cXm_turn 31 = .ok (.iconst 2, 1) := by decide +kernel
theorem dXm_turn_32 : decode cXm_turn 32 = .ok (.if_icmp .ne 21, 3) := by decide +kernel
theorem dXm_turn_35 : decode cXm_turn 35 = .ok (.aload_n 0, 1) := by decide +kernel
theorem dXm_turn_36 : decode cXm_turn 36 = .ok (.getfield 108, 3) := by decide +kernel
theorem dXm_turn_39 : decode cXm_turn 39 = .ok (.aload_n 0, 1) := by decide +kernel
theorem dXm_turn_40 : decode cXm_turn 40 = .ok (.getfield 35, 3) := by decide +kernel
theorem dXm_turn_43 : decode cXm_turn 43 = .ok (.iload_n 2, 1) := by decide +kernel
theorem dXm_turn_44 : decode cXm_turn 44 = .ok (.iaload, 1) := by decide +kernel
theorem dXm_turn_45 : decode cXm_turn 45 = .ok (.if_icmp .lt 8, 3) := by decide +kernel
theorem dXm_turn_48 : decode cXm_turn 48 = .ok (.aload_n 0, 1) := by decide +kernel
theorem dXm_turn_49 : decode cXm_turn 49 = .ok (.iload_n 2, 1) := by decide +kernel
theorem dXm_turn_50 : decode cXm_turn 50 = .ok (.invokevirtual 115, 3) := by decide +kernel
theorem dXm_turn_53 : decode cXm_turn 53 = .ok (.iinc 2 1, 3) := by decide +kernel
theorem dXm_turn_56 : decode cXm_turn 56 = .ok (.goto (-37), 3) := by decide +kernel
theorem dXm_turn_59 : decode cXm_turn 59 = .ok (.aload_n 0, 1) := by decide +kernel
theorem dXm_turn_60 : decode cXm_turn 60 = .ok (.getfield 29, 3) := by decide +kernel
theorem dXm_turn_63 : decode cXm_turn 63 = .ok (.iload_n 1, 1) := by decide +kernel
theorem dXm_turn_64 : decode cXm_turn 64 = .ok (.iaload, 1) := by decide +kernel
theorem dXm_turn_65 : decode cXm_turn 65 = .ok (.aload_n 0, 1) := by decide +kernel
theorem dXm_turn_66 : decode cXm_turn 66 = .ok (.getfield 20, 3) := by decide +kernel
theorem dXm_turn_69 : decode cXm_turn 69 = .ok (.iload_n 1, 1) := by decide +kernel
theorem dXm_turn_70 : decode cXm_turn 70 = .ok (.iaload, 1) := by decide +kernel
theorem dXm_turn_71 : decode cXm_turn 71 = .ok (.if_icmp .ne 10, 3) := by decide +kernel
theorem dXm_turn_74 : decode cXm_turn 74 = .ok (.aload_n 0, 1) := by decide +kernel
theorem dXm_turn_75 : decode cXm_turn 75 = .ok (.iload_n 1, 1) := by decide +kernel
theorem dXm_turn_76 : decode cXm_turn 76 = .ok (.invokevirtual 137, 3) := by decide +kernel
theorem dXm_turn_79 : decode cXm_turn 79 = .ok (.iconst 4, 1) := by decide +kernel
theorem dXm_turn_80 : decode cXm_turn 80 = .ok (.ireturn, 1) := by decide +kernel
theorem dXm_turn_81 : decode cXm_turn 81 = .ok (.aload_n 0, 1) := by decide +kernel
theorem dXm_turn_82 : decode cXm_turn 82 = .ok (.getfield 17, 3) := by decide +kernel
theorem dXm_turn_85 : decode cXm_turn 85 = .ok (.bipush 16, 2) := by decide +kernel
theorem dXm_turn_87 : decode cXm_turn 87 = .ok (.iload_n 1, 1) := by decide +kernel
theorem dXm_turn_88 : decode cXm_turn 88 = .ok (.imul, 1) := by decide +kernel
theorem dXm_turn_89 : decode cXm_turn 89 = .ok (.aload_n 0, 1) := by decide +kernel
theorem dXm_turn_90 : decode cXm_turn 90 = .ok (.getfield 29, 3) := by decide +kernel
theorem dXm_turn_93 : decode cXm_turn 93 = .ok (.iload_n 1, 1) := by decide +kernel
theorem dXm_turn_94 : decode cXm_turn 94 = .ok (.iaload, 1) := by decide +kernel
theorem dXm_turn_95 : decode cXm_turn 95 = .ok (.iadd, 1) := by decide +kernel
theorem dXm_turn_96 : decode cXm_turn 96 = .ok (.iaload, 1) := by decide +kernel
theorem dXm_turn_97 : decode cXm_turn 97 = .ok (.istore_n 2, 1) := by decide +kernel
theorem dXm_turn_98 : decode cXm_turn 98 = .ok (.aload_n 0, 1) := by decide +kernel
theorem dXm_turn_99 : decode cXm_turn 99 = .ok (.getfield 13, 3) := by decide +kernel
theorem dXm_turn_102 : decode cXm_turn 102 = .ok (.bipush 16, 2) := by decide +kernel
theorem dXm_turn_104 : decode cXm_turn 104 = .ok (.iload_n 1, 1) := by decide +kernel
theorem dXm_turn_105 : decode cXm_turn 105 = .ok (.imul, 1) := by decide +kernel
theorem dXm_turn_106 : decode cXm_turn 106 = .ok (.aload_n 0, 1) := by decide +kernel
theorem dXm_turn_107 : decode cXm_turn 107 = .ok (.getfield 29, 3) := by decide +kernel
theorem dXm_turn_110 : decode cXm_turn 110 = .ok (.iload_n 1, 1) := by decide +kernel
theorem dXm_turn_111 : decode cXm_turn 111 = .ok (.iaload, 1) := by decide +kernel
theorem dXm_turn_112 : decode cXm_turn 112 = .ok (.iadd, 1) := by decide +kernel
theorem dXm_turn_113 : decode cXm_turn 113 = .ok (.iaload, 1) := by decide +kernel
theorem dXm_turn_114 : decode cXm_turn 114 = .ok (.tableswitch 87 0 5 #[38, 45, 52, 59, 73, 80], 38) := by decide +kernel
theorem dXm_turn_152 : decode cXm_turn 152 = .ok (.aload_n 0, 1) := by decide +kernel
theorem dXm_turn_153 : decode cXm_turn 153 = .ok (.iload_n 1, 1) := by decide +kernel
theorem dXm_turn_154 : decode cXm_turn 154 = .ok (.iload_n 2, 1) := by decide +kernel
theorem dXm_turn_155 : decode cXm_turn 155 = .ok (.invokevirtual 140, 3) := by decide +kernel
theorem dXm_turn_158 : decode cXm_turn 158 = .ok (.ireturn, 1) := by decide +kernel
theorem dXm_turn_159 : decode cXm_turn 159 = .ok (.aload_n 0, 1) := by decide +kernel
theorem dXm_turn_160 : decode cXm_turn 160 = .ok (.iload_n 1, 1) := by decide +kernel
theorem dXm_turn_161 : decode cXm_turn 161 = .ok (.iload_n 2, 1) := by decide +kernel
theorem dXm_turn_162 : decode cXm_turn 162 = .ok (.invokevirtual 143, 3) := by decide +kernel
theorem dXm_turn_165 : decode cXm_turn 165 = .ok (.ireturn, 1) := by decide +kernel
theorem dXm_turn_166 : decode cXm_turn 166 = .ok (.aload_n 0, 1) := by decide +kernel
theorem dXm_turn_167 : decode cXm_turn 167 = .ok (.iload_n 1, 1) := by decide +kernel
theorem dXm_turn_168 : decode cXm_turn 168 = .ok (.iload_n 2, 1) := by decide +kernel
theorem dXm_turn_169 : decode cXm_turn 169 = .ok (.invokevirtual 146, 3) := by decide +kernel
theorem dXm_turn_172 : decode cXm_turn 172 = .ok (.ireturn, 1) := by decide +kernel
theorem dXm_turn_173 : decode cXm_turn 173 = .ok (.aload_n 0, 1) := by decide +kernel
theorem dXm_turn_174 : decode cXm_turn 174 = .ok (.iload_n 1, 1) := by decide +kernel
theorem dXm_turn_175 : decode cXm_turn 175 = .ok (.iload_n 2, 1) := by decide +kernel
theorem dXm_turn_176 : decode cXm_turn 176 = .ok (.bipush 16, 2) := by decide +kernel
theorem dXm_turn_178 : decode cXm_turn 178 = .ok (.idiv, 1) := by decide +kernel
theorem dXm_turn_179 : decode cXm_turn 179 = .ok (.iload_n 2, 1) := by decide +kernel
theorem dXm_turn_180 : decode cXm_turn 180 = .ok (.bipush 16, 2) := by decide +kernel
theorem dXm_turn_182 : decode cXm_turn 182 = .ok (.irem, 1) := by decide +kernel
theorem dXm_turn_183 : decode cXm_turn 183 = .ok (.invokevirtual 149, 3) := by decide +kernel
theorem dXm_turn_186 : decode cXm_turn 186 = .ok (.ireturn, 1) := by decide +kernel
theorem dXm_turn_187 : decode cXm_turn 187 = .ok (.aload_n 0, 1) := by decide +kernel
theorem dXm_turn_188 : decode cXm_turn 188 = .ok (.iload_n 1, 1) := by decide +kernel
theorem dXm_turn_189 : decode cXm_turn 189 = .ok (.iload_n 2, 1) := by decide +kernel
theorem dXm_turn_190 : decode cXm_turn 190 = .ok (.invokevirtual 153, 3) := by decide +kernel
theorem dXm_turn_193 : decode cXm_turn 193 = .ok (.ireturn, 1) := by decide +kernel
theorem dXm_turn_194 : decode cXm_turn 194 = .ok (.aload_n 0, 1) := by decide +kernel
theorem dXm_turn_195 : decode cXm_turn 195 = .ok (.iload_n 1, 1) := by decide +kernel
theorem dXm_turn_196 : decode cXm_turn 196 = .ok (.iload_n 2, 1) := by decide +kernel
theorem dXm_turn_197 : decode cXm_turn 197 = .ok (.invokevirtual 156, 3) := by decide +kernel
theorem dXm_turn_200 : decode cXm_turn 200 = .ok (.ireturn, 1) := by decide +kernel
theorem dXm_turn_201 : decode cXm_turn 201 = .ok (.aload_n 0, 1) := by decide +kernel
theorem dXm_turn_202 : decode cXm_turn 202 = .ok (.iload_n 1, 1) := by decide +kernel
theorem dXm_turn_203 : decode cXm_turn 203 = .ok (.iconst 5, 1) := by decide +kernel
theorem dXm_turn_204 : decode cXm_turn 204 = .ok (.invokevirtual 122, 3) := by decide +kernel
theorem dXm_turn_207 : decode cXm_turn 207 = .ok (.ireturn, 1) := by decide +kernel
theorem dXm_step_0 : decode cXm_step 0 = .ok (.iload_n 1, 1) := by decide +kernel
theorem dXm_step_1 : decode cXm_step 1 = .ok (.invokestatic 91, 3) := by decide +kernel
theorem dXm_step_4 : decode cXm_step 4 = .ok (.ifCond .ne 7, 3) := by decide +kernel
theorem dXm_step_7 : decode cXm_step 7 = .ok (.iconst 1, 1) := by decide +kernel
theorem dXm_step_8 : decode cXm_step 8 = .ok (.goto 4, 3) := by decide +kernel
theorem dXm_step_11 : decode cXm_step 11 = .ok (.iconst 0, 1) := by decide +kernel
theorem dXm_step_12 : decode cXm_step 12 = .ok (.istore_n 2, 1) := by decide +kernel
theorem dXm_step_13 : decode cXm_step 13 = .ok (.aload_n 0, 1) := by decide +kernel
theorem dXm_step_14 : decode cXm_step 14 = .ok (.iload_n 2, 1) := by decide +kernel
theorem dXm_step_15 : decode cXm_step 15 = .ok (.iload_n 2, 1) := by decide +kernel
theorem dXm_step_16 : decode cXm_step 16 = .ok (.ifCond .ne 24, 3) := by decide +kernel
theorem dXm_step_19 : decode cXm_step 19 = .ok (.aload_n 0, 1) := by decide +kernel
theorem dXm_step_20 : decode cXm_step 20 = .ok (.getfield 26, 3) := by decide +kernel
theorem dXm_step_23 : decode cXm_step 23 = .ok (.iload_n 2, 1) := by decide +kernel
theorem dXm_step_24 : decode cXm_step 24 = .ok (.ifCond .eq 7, 3) := by decide +kernel
theorem dXm_step_27 : decode cXm_step 27 = .ok (.iconst 0, 1) := by decide +kernel
theorem dXm_step_28 : decode cXm_step 28 = .ok (.goto 4, 3) := by decide +kernel
theorem dXm_step_31 : decode cXm_step 31 = .ok (.iload_n 1, 1) := by decide +kernel
theorem dXm_step_32 : decode cXm_step 32 = .ok (.iaload, 1) := by decide +kernel
theorem dXm_step_33 : decode cXm_step 33 = .ok (.ifCond .eq 7, 3) := by decide +kernel
theorem dXm_step_36 : decode cXm_step 36 = .ok (.iconst 1, 1) := by decide +kernel
theorem dXm_step_37 : decode cXm_step 37 = .ok (.goto 4, 3) := by decide +kernel
theorem dXm_step_40 : decode cXm_step 40 = .ok (.iconst 0, 1) := by decide +kernel
theorem dXm_step_41 : decode cXm_step 41 = .ok (.iconst 0, 1) := by decide +kernel
theorem dXm_step_42 : decode cXm_step 42 = .ok (.iconst 0, 1) := by decide +kernel
theorem dXm_step_43 : decode cXm_step 43 = .ok (.invokevirtual 98, 3) := by decide +kernel
theorem dXm_step_46 : decode cXm_step 46 = .ok (.ifCond .eq 5, 3) := by decide +kernel
theorem dXm_step_49 : decode cXm_step 49 = .ok (.iconst 0, 1) := by decide +kernel
theorem dXm_step_50 : decode cXm_step 50 = .ok (.ireturn, 1) := by decide +kernel
theorem dXm_step_51 : decode cXm_step 51 = .ok (.aload_n 0, 1) := by decide +kernel
theorem dXm_step_52 : decode cXm_step 52 = .ok (.iload_n 1, 1) := by decide +kernel
theorem dXm_step_53 : decode cXm_step 53 = .ok (.invokevirtual 159, 3) := by decide +kernel
theorem dXm_step_56 : decode cXm_step 56 = .ok (.ireturn, 1) := by decide +kernel
theorem dXm_run_0 : decode cXm_run 0 = .ok (.aload_n 0, 1) := by decide +kernel
theorem dXm_run_1 : decode cXm_run 1 = .ok (.iload_n 3, 1) := by decide +kernel
theorem dXm_run_2 : decode cXm_run 2 = .ok (.iconst 0, 1) := by decide +kernel
theorem dXm_run_3 : decode cXm_run 3 = .ok (.bipush 16, 2) := by decide +kernel
theorem dXm_run_5 : decode cXm_run 5 = .ok (.invokestatic 87, 3) := by decide +kernel
theorem dXm_run_8 : decode cXm_run 8 = .ok (.ifCond .ne 7, 3) := by decide +kernel
theorem dXm_run_11 : decode cXm_run 11 = .ok (.iconst 1, 1) := by decide +kernel
theorem dXm_run_12 : decode cXm_run 12 = .ok (.goto 4, 3) := by decide +kernel
theorem dXm_run_15 : decode cXm_run 15 = .ok (.iconst 0, 1) := by decide +kernel
theorem dXm_run_16 : decode cXm_run 16 = .ok (.iconst 0, 1) := by decide +kernel
theorem dXm_run_17 : decode cXm_run 17 = .ok (.iconst 0, 1) := by decide +kernel
theorem dXm_run_18 : decode cXm_run 18 = .ok (.iconst 0, 1) := by decide +kernel
theorem dXm_run_19 : decode cXm_run 19 = .ok (.invokevirtual 98, 3) := by decide +kernel
theorem dXm_run_22 : decode cXm_run 22 = .ok (.ifCond .eq 5, 3) := by decide +kernel
theorem dXm_run_25 : decode cXm_run 25 = .ok (.iconst 0, 1) := by decide +kernel
theorem dXm_run_26 : decode cXm_run 26 = .ok (.ireturn, 1) := by decide +kernel
theorem dXm_run_27 : decode cXm_run 27 = .ok (.iconst 0, 1) := by decide +kernel
theorem dXm_run_28 : decode cXm_run 28 = .ok (.istore 4, 2) := by decide +kernel
theorem dXm_run_30 : decode cXm_run 30 = .ok (.iconst 0, 1) := by decide +kernel
theorem dXm_run_31 : decode cXm_run 31 = .ok (.istore 5, 2) := by decide +kernel
theorem dXm_run_33 : decode cXm_run 33 = .ok (.iload 5, 2) := by decide +kernel
theorem dXm_run_35 : decode cXm_run 35 = .ok (.iload_n 3, 1) := by decide +kernel
theorem dXm_run_36 : decode cXm_run 36 = .ok (.if_icmp .ge 51, 3) := by decide +kernel
theorem dXm_run_39 : decode cXm_run 39 = .ok (.lload_n 1, 1) := by decide +kernel
theorem dXm_run_40 : decode cXm_run 40 = .ok (.iconst 4, 1) := by decide +kernel
theorem dXm_run_41 : decode cXm_run 41 = .ok (.iload 5, 2) := by decide +kernel
theorem dXm_run_43 : decode cXm_run 43 = .ok (.imul, 1) := by decide +kernel
theorem dXm_run_44 : decode cXm_run 44 = .ok (.lshr, 1) := by decide +kernel
theorem dXm_run_45 : decode cXm_run 45 = .ok (.l2i, 1) := by decide +kernel
theorem dXm_run_46 : decode cXm_run 46 = .ok (.bipush 7, 2) := by decide +kernel
theorem dXm_run_48 : decode cXm_run 48 = .ok (.iand, 1) := by decide +kernel
theorem dXm_run_49 : decode cXm_run 49 = .ok (.istore 6, 2) := by decide +kernel
theorem dXm_run_51 : decode cXm_run 51 = .ok (.aload_n 0, 1) := by decide +kernel
theorem dXm_run_52 : decode cXm_run 52 = .ok (.getfield 26, 3) := by decide +kernel
theorem dXm_run_55 : decode cXm_run 55 = .ok (.iload 6, 2) := by decide +kernel
theorem dXm_run_57 : decode cXm_run 57 = .ok (.iaload, 1) := by decide +kernel
theorem dXm_run_58 : decode cXm_run 58 = .ok (.ifCond .ne 23, 3) := by decide +kernel
theorem dXm_run_61 : decode cXm_run 61 = .ok (.iload 4, 2) := by decide +kernel
theorem dXm_run_63 : decode cXm_run 63 = .ok (.aload_n 0, 1) := by decide +kernel
theorem dXm_run_64 : decode cXm_run 64 = .ok (.iload 6, 2) := by decide +kernel
theorem dXm_run_66 : decode cXm_run 66 = .ok (.invokevirtual 159, 3) := by decide +kernel
theorem dXm_run_69 : decode cXm_run 69 = .ok (.iconst 1, 1) := by decide +kernel
theorem dXm_run_70 : decode cXm_run 70 = .ok (.if_icmp .ne 7, 3) := by decide +kernel
theorem dXm_run_73 : decode cXm_run 73 = .ok (.iconst 1, 1) := by decide +kernel
theorem dXm_run_74 : decode cXm_run 74 = .ok (.goto 4, 3) := by decide +kernel
theorem dXm_run_77 : decode cXm_run 77 = .ok (.iconst 0, 1) := by decide +kernel
theorem dXm_run_78 : decode cXm_run 78 = .ok (.iadd, 1) := by decide +kernel
theorem dXm_run_79 : decode cXm_run 79 = .ok (.istore 4, 2) := by decide +kernel
theorem dXm_run_81 : decode cXm_run 81 = .ok (.iinc 5 1, 3) := by decide +kernel
theorem dXm_run_84 : decode cXm_run 84 = .ok (.goto (-51), 3) := by decide +kernel
theorem dXm_run_87 : decode cXm_run 87 = .ok (.iload 4, 2) := by decide +kernel
theorem dXm_run_89 : decode cXm_run 89 = .ok (.ireturn, 1) := by decide +kernel
theorem dXm_heir_0 : decode cXm_heir 0 = .ok (.iconst 1, 1) := by decide +kernel
theorem dXm_heir_1 : decode cXm_heir 1 = .ok (.istore_n 2, 1) := by decide +kernel
theorem dXm_heir_2 : decode cXm_heir 2 = .ok (.iload_n 2, 1) := by decide +kernel
theorem dXm_heir_3 : decode cXm_heir 3 = .ok (.bipush 8, 2) := by decide +kernel
theorem dXm_heir_5 : decode cXm_heir 5 = .ok (.if_icmp .ge 36, 3) := by decide +kernel
theorem dXm_heir_8 : decode cXm_heir 8 = .ok (.iload_n 1, 1) := by decide +kernel
theorem dXm_heir_9 : decode cXm_heir 9 = .ok (.iload_n 2, 1) := by decide +kernel
theorem dXm_heir_10 : decode cXm_heir 10 = .ok (.iadd, 1) := by decide +kernel
theorem dXm_heir_11 : decode cXm_heir 11 = .ok (.bipush 8, 2) := by decide +kernel
theorem dXm_heir_13 : decode cXm_heir 13 = .ok (.irem, 1) := by decide +kernel
theorem dXm_heir_14 : decode cXm_heir 14 = .ok (.istore_n 3, 1) := by decide +kernel
theorem dXm_heir_15 : decode cXm_heir 15 = .ok (.aload_n 0, 1) := by decide +kernel
theorem dXm_heir_16 : decode cXm_heir 16 = .ok (.getfield 26, 3) := by decide +kernel
theorem dXm_heir_19 : decode cXm_heir 19 = .ok (.iload_n 3, 1) := by decide +kernel
theorem dXm_heir_20 : decode cXm_heir 20 = .ok (.iaload, 1) := by decide +kernel
theorem dXm_heir_21 : decode cXm_heir 21 = .ok (.ifCond .ne 14, 3) := by decide +kernel
theorem dXm_heir_24 : decode cXm_heir 24 = .ok (.aload_n 0, 1) := by decide +kernel
theorem dXm_heir_25 : decode cXm_heir 25 = .ok (.getfield 20, 3) := by decide +kernel
theorem dXm_heir_28 : decode cXm_heir 28 = .ok (.iload_n 3, 1) := by decide +kernel
theorem dXm_heir_29 : decode cXm_heir 29 = .ok (.iaload, 1) := by decide +kernel
theorem dXm_heir_30 : decode cXm_heir 30 = .ok (.ifCond .le 5, 3) := by decide +kernel
theorem dXm_heir_33 : decode cXm_heir 33 = .ok (.iload_n 3, 1) := by decide +kernel
theorem dXm_heir_34 : decode cXm_heir 34 = .ok (.ireturn, 1) := by decide +kernel
theorem dXm_heir_35 : decode cXm_heir 35 = .ok (.iinc 2 1, 3) := by decide +kernel
theorem dXm_heir_38 : decode cXm_heir 38 = .ok (.goto (-36), 3) := by decide +kernel
theorem dXm_heir_41 : decode cXm_heir 41 = .ok (.iconst (-1), 1) := by decide +kernel
theorem dXm_heir_42 : decode cXm_heir 42 = .ok (.ireturn, 1) := by decide +kernel
theorem dXm_kill_0 : decode cXm_kill 0 = .ok (.iload_n 1, 1) := by decide +kernel
theorem dXm_kill_1 : decode cXm_kill 1 = .ok (.invokestatic 91, 3) := by decide +kernel
theorem dXm_kill_4 : decode cXm_kill 4 = .ok (.ifCond .ne 7, 3) := by decide +kernel
theorem dXm_kill_7 : decode cXm_kill 7 = .ok (.iconst 1, 1) := by decide +kernel
theorem dXm_kill_8 : decode cXm_kill 8 = .ok (.goto 4, 3) := by decide +kernel
theorem dXm_kill_11 : decode cXm_kill 11 = .ok (.iconst 0, 1) := by decide +kernel
theorem dXm_kill_12 : decode cXm_kill 12 = .ok (.istore_n 2, 1) := by decide +kernel
theorem dXm_kill_13 : decode cXm_kill 13 = .ok (.aload_n 0, 1) := by decide +kernel
theorem dXm_kill_14 : decode cXm_kill 14 = .ok (.iload_n 2, 1) := by decide +kernel
theorem dXm_kill_15 : decode cXm_kill 15 = .ok (.iload_n 2, 1) := by decide +kernel
theorem dXm_kill_16 : decode cXm_kill 16 = .ok (.ifCond .ne 24, 3) := by decide +kernel
theorem dXm_kill_19 : decode cXm_kill 19 = .ok (.aload_n 0, 1) := by decide +kernel
theorem dXm_kill_20 : decode cXm_kill 20 = .ok (.getfield 26, 3) := by decide +kernel
theorem dXm_kill_23 : decode cXm_kill 23 = .ok (.iload_n 2, 1) := by decide +kernel
theorem dXm_kill_24 : decode cXm_kill 24 = .ok (.ifCond .eq 7, 3) := by decide +kernel
theorem dXm_kill_27 : decode cXm_kill 27 = .ok (.iconst 0, 1) := by decide +kernel
theorem dXm_kill_28 : decode cXm_kill 28 = .ok (.goto 4, 3) := by decide +kernel
theorem dXm_kill_31 : decode cXm_kill 31 = .ok (.iload_n 1, 1) := by decide +kernel
theorem dXm_kill_32 : decode cXm_kill 32 = .ok (.iaload, 1) := by decide +kernel
theorem dXm_kill_33 : decode cXm_kill 33 = .ok (.ifCond .eq 7, 3) := by decide +kernel
theorem dXm_kill_36 : decode cXm_kill 36 = .ok (.iconst 1, 1) := by decide +kernel
theorem dXm_kill_37 : decode cXm_kill 37 = .ok (.goto 4, 3) := by decide +kernel
theorem dXm_kill_40 : decode cXm_kill 40 = .ok (.iconst 0, 1) := by decide +kernel
theorem dXm_kill_41 : decode cXm_kill 41 = .ok (.iconst 0, 1) := by decide +kernel
theorem dXm_kill_42 : decode cXm_kill 42 = .ok (.iconst 0, 1) := by decide +kernel
theorem dXm_kill_43 : decode cXm_kill 43 = .ok (.invokevirtual 98, 3) := by decide +kernel
theorem dXm_kill_46 : decode cXm_kill 46 = .ok (.ifCond .eq 4, 3) := by decide +kernel
theorem dXm_kill_49 : decode cXm_kill 49 = .ok (.return_, 1) := by decide +kernel
theorem dXm_kill_50 : decode cXm_kill 50 = .ok (.aload_n 0, 1) := by decide +kernel
theorem dXm_kill_51 : decode cXm_kill 51 = .ok (.getfield 26, 3) := by decide +kernel
theorem dXm_kill_54 : decode cXm_kill 54 = .ok (.iload_n 1, 1) := by decide +kernel
theorem dXm_kill_55 : decode cXm_kill 55 = .ok (.iconst 2, 1) := by decide +kernel
theorem dXm_kill_56 : decode cXm_kill 56 = .ok (.iastore, 1) := by decide +kernel
theorem dXm_kill_57 : decode cXm_kill 57 = .ok (.aload_n 0, 1) := by decide +kernel
theorem dXm_kill_58 : decode cXm_kill 58 = .ok (.getfield 35, 3) := by decide +kernel
theorem dXm_kill_61 : decode cXm_kill 61 = .ok (.iload_n 1, 1) := by decide +kernel
theorem dXm_kill_62 : decode cXm_kill 62 = .ok (.aload_n 0, 1) := by decide +kernel
theorem dXm_kill_63 : decode cXm_kill 63 = .ok (.getfield 108, 3) := by decide +kernel
theorem dXm_kill_66 : decode cXm_kill 66 = .ok (.aload_n 0, 1) := by decide +kernel
theorem dXm_kill_67 : decode cXm_kill 67 = .ok (.getfield 7, 3) := by decide +kernel
theorem dXm_kill_70 : decode cXm_kill 70 = .ok (.iadd, 1) := by decide +kernel
theorem dXm_kill_71 : decode cXm_kill 71 = .ok (.iastore, 1) := by decide +kernel
theorem dXm_kill_72 : decode cXm_kill 72 = .ok (.aload_n 0, 1) := by decide +kernel
theorem dXm_kill_73 : decode cXm_kill 73 = .ok (.getfield 7, 3) := by decide +kernel
theorem dXm_kill_76 : decode cXm_kill 76 = .ok (.ifCond .ne 8, 3) := by decide +kernel
theorem dXm_kill_79 : decode cXm_kill 79 = .ok (.aload_n 0, 1) := by decide +kernel
theorem dXm_kill_80 : decode cXm_kill 80 = .ok (.iload_n 1, 1) := by decide +kernel
theorem dXm_kill_81 : decode cXm_kill 81 = .ok (.invokevirtual 115, 3) := by decide +kernel
theorem dXm_kill_84 : decode cXm_kill 84 = .ok (.aload_n 0, 1) := by decide +kernel
theorem dXm_kill_85 : decode cXm_kill 85 = .ok (.getfield 48, 3) := by decide +kernel
theorem dXm_kill_88 : decode cXm_kill 88 = .ok (.iload_n 1, 1) := by decide +kernel
theorem dXm_kill_89 : decode cXm_kill 89 = .ok (.iconst 0, 1) := by decide +kernel
theorem dXm_kill_90 : decode cXm_kill 90 = .ok (.bastore, 1) := by decide +kernel
theorem dXm_kill_91 : decode cXm_kill 91 = .ok (.aload_n 0, 1) := by decide +kernel
theorem dXm_kill_92 : decode cXm_kill 92 = .ok (.getfield 51, 3) := by decide +kernel
theorem dXm_kill_95 : decode cXm_kill 95 = .ok (.iload_n 1, 1) := by decide +kernel
theorem dXm_kill_96 : decode cXm_kill 96 = .ok (.iconst 0, 1) := by decide +kernel
theorem dXm_kill_97 : decode cXm_kill 97 = .ok (.bastore, 1) := by decide +kernel
theorem dXm_kill_98 : decode cXm_kill 98 = .ok (.aload_n 0, 1) := by decide +kernel
theorem dXm_kill_99 : decode cXm_kill 99 = .ok (.getfield 38, 3) := by decide +kernel
theorem dXm_kill_102 : decode cXm_kill 102 = .ok (.iload_n 1, 1) := by decide +kernel
theorem dXm_kill_103 : decode cXm_kill 103 = .ok (.iconst 0, 1) := by decide +kernel
theorem dXm_kill_104 : decode cXm_kill 104 = .ok (.iastore, 1) := by decide +kernel
theorem dXm_kill_105 : decode cXm_kill 105 = .ok (.aload_n 0, 1) := by decide +kernel
theorem dXm_kill_106 : decode cXm_kill 106 = .ok (.iload_n 1, 1) := by decide +kernel
theorem dXm_kill_107 : decode cXm_kill 107 = .ok (.invokevirtual 162, 3) := by decide +kernel
theorem dXm_kill_110 : decode cXm_kill 110 = .ok (.istore_n 3, 1) := by decide +kernel
theorem dXm_kill_111 : decode cXm_kill 111 = .ok (.iconst 0, 1) := by decide +kernel
theorem dXm_kill_112 : decode cXm_kill 112 = .ok (.istore 4, 2) := by decide +kernel
theorem dXm_kill_114 : decode cXm_kill 114 = .ok (.iload 4, 2) := by decide +kernel
theorem dXm_kill_116 : decode cXm_kill 116 = .ok (.aload_n 0, 1) := by decide +kernel
theorem dXm_kill_117 : decode cXm_kill 117 = .ok (.getfield 102, 3) := by decide +kernel
theorem dXm_kill_120 : decode cXm_kill 120 = .ok (.if_icmp .ge 38, 3) := by decide +kernel
theorem dXm_kill_123 : decode cXm_kill 123 = .ok (.aload_n 0, 1) := by decide +kernel
theorem dXm_kill_124 : decode cXm_kill 124 = .ok (.getfield 69, 3) := by decide +kernel
theorem dXm_kill_127 : decode cXm_kill 127 = .ok (.iload 4, 2) := by decide +kernel
theorem dXm_kill_129 : decode cXm_kill 129 = .ok (.baload, 1) := by decide +kernel
theorem dXm_kill_130 : decode cXm_kill 130 = .ok (.ifCond .eq 22, 3) := by decide +kernel
theorem dXm_kill_133 : decode cXm_kill 133 = .ok (.aload_n 0, 1) := by decide +kernel
theorem dXm_kill_134 : decode cXm_kill 134 = .ok (.getfield 63, 3) := by decide +kernel
theorem dXm_kill_137 : decode cXm_kill 137 = .ok (.iload 4, 2) := by decide +kernel
theorem dXm_kill_139 : decode cXm_kill 139 = .ok (.iaload, 1) := by decide +kernel
theorem dXm_kill_140 : decode cXm_kill 140 = .ok (.iload_n 1, 1) := by decide +kernel
theorem dXm_kill_141 : decode cXm_kill 141 = .ok (.if_icmp .ne 11, 3) := by decide +kernel
theorem dXm_kill_144 : decode cXm_kill 144 = .ok (.aload_n 0, 1) := by decide +kernel
theorem dXm_kill_145 : decode cXm_kill 145 = .ok (.getfield 63, 3) := by decide +kernel
theorem dXm_kill_148 : decode cXm_kill 148 = .ok (.iload 4, 2) := by decide +kernel
theorem dXm_kill_150 : decode cXm_kill 150 = .ok (.iload_n 3, 1) := by decide +kernel
theorem dXm_kill_151 : decode cXm_kill 151 = .ok (.iastore, 1) := by decide +kernel
theorem dXm_kill_152 : decode cXm_kill 152 = .ok (.iinc 4 1, 3) := by decide +kernel
theorem dXm_kill_155 : decode cXm_kill 155 = .ok (.goto (-41), 3) := by decide +kernel
theorem dXm_kill_158 : decode cXm_kill 158 = .ok (.return_, 1) := by decide +kernel
theorem dXm_restart_0 : decode cXm_restart 0 = .ok (.iload_n 1, 1) := by decide +kernel
theorem dXm_restart_1 : decode cXm_restart 1 = .ok (.invokestatic 91, 3) := by decide +kernel
theorem dXm_restart_4 : decode cXm_restart 4 = .ok (.ifCond .ne 7, 3) := by decide +kernel
theorem dXm_restart_7 : decode cXm_restart 7 = .ok (.iconst 1, 1) := by decide +kernel
theorem dXm_restart_8 : decode cXm_restart 8 = .ok (.goto 4, 3) := by decide +kernel
theorem dXm_restart_11 : decode cXm_restart 11 = .ok (.iconst 0, 1) := by decide +kernel
theorem dXm_restart_12 : decode cXm_restart 12 = .ok (.istore_n 2, 1) := by decide +kernel
theorem dXm_restart_13 : decode cXm_restart 13 = .ok (.aload_n 0, 1) := by decide +kernel
theorem dXm_restart_14 : decode cXm_restart 14 = .ok (.iload_n 2, 1) := by decide +kernel
theorem dXm_restart_15 : decode cXm_restart 15 = .ok (.iload_n 2, 1) := by decide +kernel
theorem dXm_restart_16 : decode cXm_restart 16 = .ok (.ifCond .ne 24, 3) := by decide +kernel
theorem dXm_restart_19 : decode cXm_restart 19 = .ok (.aload_n 0, 1) := by decide +kernel
theorem dXm_restart_20 : decode cXm_restart 20 = .ok (.getfield 26, 3) := by decide +kernel
theorem dXm_restart_23 : decode cXm_restart 23 = .ok (.iload_n 2, 1) := by decide +kernel
theorem dXm_restart_24 : decode cXm_restart 24 = .ok (.ifCond .eq 7, 3) := by decide +kernel
theorem dXm_restart_27 : decode cXm_restart 27 = .ok (.iconst 0, 1) := by decide +kernel
theorem dXm_restart_28 : decode cXm_restart 28 = .ok (.goto 4, 3) := by decide +kernel
theorem dXm_restart_31 : decode cXm_restart 31 = .ok (.iload_n 1, 1) := by decide +kernel
theorem dXm_restart_32 : decode cXm_restart 32 = .ok (.iaload, 1) := by decide +kernel
theorem dXm_restart_33 : decode cXm_restart 33 = .ok (.ifCond .ne 7, 3) := by decide +kernel
theorem dXm_restart_36 : decode cXm_restart 36 = .ok (.iconst 1, 1) := by decide +kernel
theorem dXm_restart_37 : decode cXm_restart 37 = .ok (.goto 4, 3) := by decide +kernel
theorem dXm_restart_40 : decode cXm_restart 40 = .ok (.iconst 0, 1) := by decide +kernel
theorem dXm_restart_41 : decode cXm_restart 41 = .ok (.iconst 0, 1) := by decide +kernel
theorem dXm_restart_42 : decode cXm_restart 42 = .ok (.iconst 0, 1) := by decide +kernel
theorem dXm_restart_43 : decode cXm_restart 43 = .ok (.invokevirtual 98, 3) := by decide +kernel
theorem dXm_restart_46 : decode cXm_restart 46 = .ok (.ifCond .eq 4, 3) := by decide +kernel
theorem dXm_restart_49 : decode cXm_restart 49 = .ok (.return_, 1) := by decide +kernel
theorem dXm_restart_50 : decode cXm_restart 50 = .ok (.aload_n 0, 1) := by decide +kernel
theorem dXm_restart_51 : decode cXm_restart 51 = .ok (.iload_n 1, 1) := by decide +kernel
theorem dXm_restart_52 : decode cXm_restart 52 = .ok (.invokevirtual 115, 3) := by decide +kernel
theorem dXm_restart_55 : decode cXm_restart 55 = .ok (.aload_n 0, 1) := by decide +kernel
theorem dXm_restart_56 : decode cXm_restart 56 = .ok (.getfield 26, 3) := by decide +kernel
theorem dXm_restart_59 : decode cXm_restart 59 = .ok (.iload_n 1, 1) := by decide +kernel
theorem dXm_restart_60 : decode cXm_restart 60 = .ok (.iconst 0, 1) := by decide +kernel
theorem dXm_restart_61 : decode cXm_restart 61 = .ok (.iastore, 1) := by decide +kernel
theorem dXm_restart_62 : decode cXm_restart 62 = .ok (.aload_n 0, 1) := by decide +kernel
theorem dXm_restart_63 : decode cXm_restart 63 = .ok (.getfield 29, 3) := by decide +kernel
theorem dXm_restart_66 : decode cXm_restart 66 = .ok (.iload_n 1, 1) := by decide +kernel
theorem dXm_restart_67 : decode cXm_restart 67 = .ok (.iconst 0, 1) := by decide +kernel
theorem dXm_restart_68 : decode cXm_restart 68 = .ok (.iastore, 1) := by decide +kernel
theorem dXm_restart_69 : decode cXm_restart 69 = .ok (.aload_n 0, 1) := by decide +kernel
theorem dXm_restart_70 : decode cXm_restart 70 = .ok (.getfield 32, 3) := by decide +kernel
theorem dXm_restart_73 : decode cXm_restart 73 = .ok (.iload_n 1, 1) := by decide +kernel
theorem dXm_restart_74 : decode cXm_restart 74 = .ok (.iconst 0, 1) := by decide +kernel
theorem dXm_restart_75 : decode cXm_restart 75 = .ok (.iastore, 1) := by decide +kernel
theorem dXm_restart_76 : decode cXm_restart 76 = .ok (.aload_n 0, 1) := by decide +kernel
theorem dXm_restart_77 : decode cXm_restart 77 = .ok (.getfield 44, 3) := by decide +kernel
theorem dXm_restart_80 : decode cXm_restart 80 = .ok (.iload_n 1, 1) := by decide +kernel
theorem dXm_restart_81 : decode cXm_restart 81 = .ok (.iconst 0, 1) := by decide +kernel
theorem dXm_restart_82 : decode cXm_restart 82 = .ok (.bastore, 1) := by decide +kernel
theorem dXm_restart_83 : decode cXm_restart 83 = .ok (.aload_n 0, 1) := by decide +kernel
theorem dXm_restart_84 : decode cXm_restart 84 = .ok (.getfield 48, 3) := by decide +kernel
theorem dXm_restart_87 : decode cXm_restart 87 = .ok (.iload_n 1, 1) := by decide +kernel
theorem dXm_restart_88 : decode cXm_restart 88 = .ok (.iconst 0, 1) := by decide +kernel
theorem dXm_restart_89 : decode cXm_restart 89 = .ok (.bastore, 1) := by decide +kernel
theorem dXm_restart_90 : decode cXm_restart 90 = .ok (.aload_n 0, 1) := by decide +kernel
theorem dXm_restart_91 : decode cXm_restart 91 = .ok (.getfield 51, 3) := by decide +kernel
theorem dXm_restart_94 : decode cXm_restart 94 = .ok (.iload_n 1, 1) := by decide +kernel
theorem dXm_restart_95 : decode cXm_restart 95 = .ok (.iconst 0, 1) := by decide +kernel
theorem dXm_restart_96 : decode cXm_restart 96 = .ok (.bastore, 1) := by decide +kernel
theorem dXm_restart_97 : decode cXm_restart 97 = .ok (.aload_n 0, 1) := by decide +kernel
theorem dXm_restart_98 : decode cXm_restart 98 = .ok (.getfield 38, 3) := by decide +kernel
theorem dXm_restart_101 : decode cXm_restart 101 = .ok (.iload_n 1, 1) := by decide +kernel
theorem dXm_restart_102 : decode cXm_restart 102 = .ok (.iconst 0, 1) := by decide +kernel
theorem dXm_restart_103 : decode cXm_restart 103 = .ok (.iastore, 1) := by decide +kernel
theorem dXm_restart_104 : decode cXm_restart 104 = .ok (.return_, 1) := by decide +kernel
theorem dXm_lease_0 : decode cXm_lease 0 = .ok (.aload_n 0, 1) := by decide +kernel
theorem dXm_lease_1 : decode cXm_lease 1 = .ok (.iload_n 1, 1) := by decide +kernel
theorem dXm_lease_2 : decode cXm_lease 2 = .ok (.iconst 0, 1) := by decide +kernel
theorem dXm_lease_3 : decode cXm_lease 3 = .ok (.bipush 100, 2) := by decide +kernel
theorem dXm_lease_5 : decode cXm_lease 5 = .ok (.invokestatic 87, 3) := by decide +kernel
theorem dXm_lease_8 : decode cXm_lease 8 = .ok (.ifCond .ne 7, 3) := by decide +kernel
theorem dXm_lease_11 : decode cXm_lease 11 = .ok (.iconst 1, 1) := by decide +kernel
theorem dXm_lease_12 : decode cXm_lease 12 = .ok (.goto 4, 3) := by decide +kernel
theorem dXm_lease_15 : decode cXm_lease 15 = .ok (.iconst 0, 1) := by decide +kernel
theorem dXm_lease_16 : decode cXm_lease 16 = .ok (.iconst 0, 1) := by decide +kernel
theorem dXm_lease_17 : decode cXm_lease 17 = .ok (.iconst 0, 1) := by decide +kernel
theorem dXm_lease_18 : decode cXm_lease 18 = .ok (.iconst 0, 1) := by decide +kernel
theorem dXm_lease_19 : decode cXm_lease 19 = .ok (.invokevirtual 98, 3) := by decide +kernel
theorem dXm_lease_22 : decode cXm_lease 22 = .ok (.ifCond .eq 4, 3) := by decide +kernel
theorem dXm_lease_25 : decode cXm_lease 25 = .ok (.return_, 1) := by decide +kernel
theorem dXm_lease_26 : decode cXm_lease 26 = .ok (.aload_n 0, 1) := by decide +kernel
theorem dXm_lease_27 : decode cXm_lease 27 = .ok (.iload_n 1, 1) := by decide +kernel
theorem dXm_lease_28 : decode cXm_lease 28 = .ok (.putfield 7, 3) := by decide +kernel
theorem dXm_lease_31 : decode cXm_lease 31 = .ok (.return_, 1) := by decide +kernel
theorem dXm_close_0 : decode cXm_close 0 = .ok (.aload_n 0, 1) := by decide +kernel
theorem dXm_close_1 : decode cXm_close 1 = .ok (.iconst 0, 1) := by decide +kernel
theorem dXm_close_2 : decode cXm_close 2 = .ok (.putfield 84, 3) := by decide +kernel
theorem dXm_close_5 : decode cXm_close 5 = .ok (.iconst 0, 1) := by decide +kernel
theorem dXm_close_6 : decode cXm_close 6 = .ok (.istore_n 1, 1) := by decide +kernel
theorem dXm_close_7 : decode cXm_close 7 = .ok (.iconst 0, 1) := by decide +kernel
theorem dXm_close_8 : decode cXm_close 8 = .ok (.istore_n 2, 1) := by decide +kernel
theorem dXm_close_9 : decode cXm_close 9 = .ok (.iload_n 2, 1) := by decide +kernel
theorem dXm_close_10 : decode cXm_close 10 = .ok (.bipush 8, 2) := by decide +kernel
theorem dXm_close_12 : decode cXm_close 12 = .ok (.if_icmp .ge 57, 3) := by decide +kernel
theorem dXm_close_15 : decode cXm_close 15 = .ok (.aload_n 0, 1) := by decide +kernel
theorem dXm_close_16 : decode cXm_close 16 = .ok (.getfield 26, 3) := by decide +kernel
theorem dXm_close_19 : decode cXm_close 19 = .ok (.iload_n 2, 1) := by decide +kernel
theorem dXm_close_20 : decode cXm_close 20 = .ok (.iaload, 1) := by decide +kernel
theorem dXm_close_21 : decode cXm_close 21 = .ok (.ifCond .ne 37, 3) := by decide +kernel
theorem dXm_close_24 : decode cXm_close 24 = .ok (.aload_n 0, 1) := by decide +kernel
theorem dXm_close_25 : decode cXm_close 25 = .ok (.iload_n 2, 1) := by decide +kernel
theorem dXm_close_26 : decode cXm_close 26 = .ok (.invokevirtual 137, 3) := by decide +kernel
theorem dXm_close_29 : decode cXm_close 29 = .ok (.aload_n 0, 1) := by decide +kernel
theorem dXm_close_30 : decode cXm_close 30 = .ok (.iload_n 2, 1) := by decide +kernel
theorem dXm_close_31 : decode cXm_close 31 = .ok (.invokevirtual 119, 3) := by decide +kernel
theorem dXm_close_34 : decode cXm_close 34 = .ok (.aload_n 0, 1) := by decide +kernel
theorem dXm_close_35 : decode cXm_close 35 = .ok (.getfield 48, 3) := by decide +kernel
theorem dXm_close_38 : decode cXm_close 38 = .ok (.iload_n 2, 1) := by decide +kernel
theorem dXm_close_39 : decode cXm_close 39 = .ok (.iconst 0, 1) := by decide +kernel
theorem dXm_close_40 : decode cXm_close 40 = .ok (.bastore, 1) := by decide +kernel
theorem dXm_close_41 : decode cXm_close 41 = .ok (.aload_n 0, 1) := by decide +kernel
theorem dXm_close_42 : decode cXm_close 42 = .ok (.getfield 51, 3) := by decide +kernel
theorem dXm_close_45 : decode cXm_close 45 = .ok (.iload_n 2, 1) := by decide +kernel
theorem dXm_close_46 : decode cXm_close 46 = .ok (.iconst 0, 1) := by decide +kernel
theorem dXm_close_47 : decode cXm_close 47 = .ok (.bastore, 1) := by decide +kernel
theorem dXm_close_48 : decode cXm_close 48 = .ok (.aload_n 0, 1) := by decide +kernel
theorem dXm_close_49 : decode cXm_close 49 = .ok (.getfield 38, 3) := by decide +kernel
theorem dXm_close_52 : decode cXm_close 52 = .ok (.iload_n 2, 1) := by decide +kernel
theorem dXm_close_53 : decode cXm_close 53 = .ok (.iconst 0, 1) := by decide +kernel
theorem dXm_close_54 : decode cXm_close 54 = .ok (.iastore, 1) := by decide +kernel
theorem dXm_close_55 : decode cXm_close 55 = .ok (.iinc 1 1, 3) := by decide +kernel
theorem dXm_close_58 : decode cXm_close 58 = .ok (.aload_n 0, 1) := by decide +kernel
theorem dXm_close_59 : decode cXm_close 59 = .ok (.iload_n 2, 1) := by decide +kernel
theorem dXm_close_60 : decode cXm_close 60 = .ok (.invokevirtual 115, 3) := by decide +kernel
theorem dXm_close_63 : decode cXm_close 63 = .ok (.iinc 2 1, 3) := by decide +kernel
theorem dXm_close_66 : decode cXm_close 66 = .ok (.goto (-57), 3) := by decide +kernel
theorem dXm_close_69 : decode cXm_close 69 = .ok (.iload_n 1, 1) := by decide +kernel
theorem dXm_close_70 : decode cXm_close 70 = .ok (.ireturn, 1) := by decide +kernel
theorem dXm_unit_0 : decode cXm_unit 0 = .ok (.aload_n 0, 1) := by decide +kernel
theorem dXm_unit_1 : decode cXm_unit 1 = .ok (.iload_n 1, 1) := by decide +kernel
theorem dXm_unit_2 : decode cXm_unit 2 = .ok (.iconst 0, 1) := by decide +kernel
theorem dXm_unit_3 : decode cXm_unit 3 = .ok (.bipush 9, 2) := by decide +kernel
theorem dXm_unit_5 : decode cXm_unit 5 = .ok (.invokestatic 87, 3) := by decide +kernel
theorem dXm_unit_8 : decode cXm_unit 8 = .ok (.ifCond .eq 12, 3) := by decide +kernel
theorem dXm_unit_11 : decode cXm_unit 11 = .ok (.iload_n 2, 1) := by decide +kernel
theorem dXm_unit_12 : decode cXm_unit 12 = .ok (.iconst 0, 1) := by decide +kernel
theorem dXm_unit_13 : decode cXm_unit 13 = .ok (.iconst 1, 1) := by decide +kernel
theorem dXm_unit_14 : decode cXm_unit 14 = .ok (.invokestatic 87, 3) := by decide +kernel
theorem dXm_unit_17 : decode cXm_unit 17 = .ok (.ifCond .ne 7, 3) := by decide +kernel
theorem dXm_unit_20 : decode cXm_unit 20 = .ok (.iconst 1, 1) := by decide +kernel
theorem dXm_unit_21 : decode cXm_unit 21 = .ok (.goto 4, 3) := by decide +kernel
theorem dXm_unit_24 : decode cXm_unit 24 = .ok (.iconst 0, 1) := by decide +kernel
theorem dXm_unit_25 : decode cXm_unit 25 = .ok (.iconst 0, 1) := by decide +kernel
theorem dXm_unit_26 : decode cXm_unit 26 = .ok (.iconst 0, 1) := by decide +kernel
theorem dXm_unit_27 : decode cXm_unit 27 = .ok (.iconst 0, 1) := by decide +kernel
theorem dXm_unit_28 : decode cXm_unit 28 = .ok (.invokevirtual 98, 3) := by decide +kernel
theorem dXm_unit_31 : decode cXm_unit 31 = .ok (.ifCond .eq 5, 3) := by decide +kernel
theorem dXm_unit_34 : decode cXm_unit 34 = .ok (.iconst 0, 1) := by decide +kernel
theorem dXm_unit_35 : decode cXm_unit 35 = .ok (.ireturn, 1) := by decide +kernel
theorem dXm_unit_36 : decode cXm_unit 36 = .ok (.iload_n 2, 1) := by decide +kernel
theorem dXm_unit_37 : decode cXm_unit 37 = .ok (.ifCond .ne 12, 3) := by decide +kernel
theorem dXm_unit_40 : decode cXm_unit 40 = .ok (.aload_n 0, 1) := by decide +kernel
theorem dXm_unit_41 : decode cXm_unit 41 = .ok (.getfield 54, 3) := by decide +kernel
theorem dXm_unit_44 : decode cXm_unit 44 = .ok (.iload_n 1, 1) := by decide +kernel
theorem dXm_unit_45 : decode cXm_unit 45 = .ok (.iaload, 1) := by decide +kernel
theorem dXm_unit_46 : decode cXm_unit 46 = .ok (.goto 9, 3) := by decide +kernel
theorem dXm_unit_49 : decode cXm_unit 49 = .ok (.aload_n 0, 1) := by decide +kernel
theorem dXm_unit_50 : decode cXm_unit 50 = .ok (.getfield 57, 3) := by decide +kernel
theorem dXm_unit_53 : decode cXm_unit 53 = .ok (.iload_n 1, 1) := by decide +kernel
theorem dXm_unit_54 : decode cXm_unit 54 = .ok (.iaload, 1) := by decide +kernel
theorem dXm_unit_55 : decode cXm_unit 55 = .ok (.ireturn, 1) := by decide +kernel
theorem dXm_callAt_0 : decode cXm_callAt 0 = .ok (.aload_n 0, 1) := by decide +kernel
theorem dXm_callAt_1 : decode cXm_callAt 1 = .ok (.iload_n 1, 1) := by decide +kernel
theorem dXm_callAt_2 : decode cXm_callAt 2 = .ok (.iconst 0, 1) := by decide +kernel
theorem dXm_callAt_3 : decode cXm_callAt 3 = .ok (.aload_n 0, 1) := by decide +kernel
theorem dXm_callAt_4 : decode cXm_callAt 4 = .ok (.getfield 102, 3) := by decide +kernel
theorem dXm_callAt_7 : decode cXm_callAt 7 = .ok (.iconst 1, 1) := by decide +kernel
theorem dXm_callAt_8 : decode cXm_callAt 8 = .ok (.isub, 1) := by decide +kernel
theorem dXm_callAt_9 : decode cXm_callAt 9 = .ok (.invokestatic 87, 3) := by decide +kernel
theorem dXm_callAt_12 : decode cXm_callAt 12 = .ok (.ifCond .eq 12, 3) := by decide +kernel
theorem dXm_callAt_15 : decode cXm_callAt 15 = .ok (.iload_n 2, 1) := by decide +kernel
theorem dXm_callAt_16 : decode cXm_callAt 16 = .ok (.iconst 0, 1) := by decide +kernel
theorem dXm_callAt_17 : decode cXm_callAt 17 = .ok (.iconst 3, 1) := by decide +kernel
theorem dXm_callAt_18 : decode cXm_callAt 18 = .ok (.invokestatic 87, 3) := by decide +kernel
theorem dXm_callAt_21 : decode cXm_callAt 21 = .ok (.ifCond .ne 7, 3) := by decide +kernel
theorem dXm_callAt_24 : decode cXm_callAt 24 = .ok (.iconst 1, 1) := by decide +kernel
theorem dXm_callAt_25 : decode cXm_callAt 25 = .ok (.goto 4, 3) := by decide +kernel
theorem dXm_callAt_28 : decode cXm_callAt 28 = .ok (.iconst 0, 1) := by decide +kernel
theorem dXm_callAt_29 : decode cXm_callAt 29 = .ok (.iconst 0, 1) := by decide +kernel
theorem dXm_callAt_30 : decode cXm_callAt 30 = .ok (.iconst 0, 1) := by decide +kernel
theorem dXm_callAt_31 : decode cXm_callAt 31 = .ok (.iconst 0, 1) := by decide +kernel
theorem dXm_callAt_32 : decode cXm_callAt 32 = .ok (.invokevirtual 98, 3) := by decide +kernel
theorem dXm_callAt_35 : decode cXm_callAt 35 = .ok (.ifCond .eq 5, 3) := by decide +kernel
theorem dXm_callAt_38 : decode cXm_callAt 38 = .ok (.iconst 0, 1) := by decide +kernel
theorem dXm_callAt_39 : decode cXm_callAt 39 = .ok (.ireturn, 1) := by decide +kernel
theorem dXm_callAt_40 : decode cXm_callAt 40 = .ok (.iload_n 2, 1) := by decide +kernel
theorem dXm_callAt_41 : decode cXm_callAt 41 = .ok (.ifCond .ne 12, 3) := by decide +kernel
theorem dXm_callAt_44 : decode cXm_callAt 44 = .ok (.aload_n 0, 1) := by decide +kernel
theorem dXm_callAt_45 : decode cXm_callAt 45 = .ok (.getfield 60, 3) := by decide +kernel
theorem dXm_callAt_48 : decode cXm_callAt 48 = .ok (.iload_n 1, 1) := by decide +kernel
theorem dXm_callAt_49 : decode cXm_callAt 49 = .ok (.iaload, 1) := by decide +kernel
theorem dXm_callAt_50 : decode cXm_callAt 50 = .ok (.goto 45, 3) := by decide +kernel
theorem dXm_callAt_53 : decode cXm_callAt 53 = .ok (.iload_n 2, 1) := by decide +kernel
theorem dXm_callAt_54 : decode cXm_callAt 54 = .ok (.iconst 1, 1) := by decide +kernel
theorem dXm_callAt_55 : decode cXm_callAt 55 = .ok (.if_icmp .ne 12, 3) := by decide +kernel
theorem dXm_callAt_58 : decode cXm_callAt 58 = .ok (.aload_n 0, 1) := by decide +kernel
theorem dXm_callAt_59 : decode cXm_callAt 59 = .ok (.getfield 63, 3) := by decide +kernel
theorem dXm_callAt_62 : decode cXm_callAt 62 = .ok (.iload_n 1, 1) := by decide +kernel
theorem dXm_callAt_63 : decode cXm_callAt 63 = .ok (.iaload, 1) := by decide +kernel
theorem dXm_callAt_64 : decode cXm_callAt 64 = .ok (.goto 31, 3) := by decide +kernel
theorem dXm_callAt_67 : decode cXm_callAt 67 = .ok (.iload_n 2, 1) := by decide +kernel
theorem dXm_callAt_68 : decode cXm_callAt 68 = .ok (.iconst 2, 1) := by decide +kernel
theorem dXm_callAt_69 : decode cXm_callAt 69 = .ok (.if_icmp .ne 12, 3) := by decide +kernel
theorem dXm_callAt_72 : decode cXm_callAt 72 = .ok (.aload_n 0, 1) := by decide +kernel
theorem dXm_callAt_73 : decode cXm_callAt 73 = .ok (.getfield 66, 3) := by decide +kernel
theorem dXm_callAt_76 : decode cXm_callAt 76 = .ok (.iload_n 1, 1) := by decide +kernel
theorem dXm_callAt_77 : decode cXm_callAt 77 = .ok (.iaload, 1) := by decide +kernel
theorem dXm_callAt_78 : decode cXm_callAt 78 = .ok (.goto 17, 3) := by decide +kernel
theorem dXm_callAt_81 : decode cXm_callAt 81 = .ok (.aload_n 0, 1) := by decide +kernel
theorem dXm_callAt_82 : decode cXm_callAt 82 = .ok (.getfield 69, 3) := by decide +kernel
theorem dXm_callAt_85 : decode cXm_callAt 85 = .ok (.iload_n 1, 1) := by decide +kernel
theorem dXm_callAt_86 : decode cXm_callAt 86 = .ok (.baload, 1) := by decide +kernel
theorem dXm_callAt_87 : decode cXm_callAt 87 = .ok (.ifCond .eq 7, 3) := by decide +kernel
theorem dXm_callAt_90 : decode cXm_callAt 90 = .ok (.iconst 1, 1) := by decide +kernel
theorem dXm_callAt_91 : decode cXm_callAt 91 = .ok (.goto 4, 3) := by decide +kernel
theorem dXm_callAt_94 : decode cXm_callAt 94 = .ok (.iconst 0, 1) := by decide +kernel
theorem dXm_callAt_95 : decode cXm_callAt 95 = .ok (.ireturn, 1) := by decide +kernel
theorem dXm_thread_0 : decode cXm_thread 0 = .ok (.aload_n 0, 1) := by decide +kernel
theorem dXm_thread_1 : decode cXm_thread 1 = .ok (.iload_n 1, 1) := by decide +kernel
theorem dXm_thread_2 : decode cXm_thread 2 = .ok (.invokestatic 91, 3) := by decide +kernel
theorem dXm_thread_5 : decode cXm_thread 5 = .ok (.ifCond .eq 12, 3) := by decide +kernel
theorem dXm_thread_8 : decode cXm_thread 8 = .ok (.iload_n 2, 1) := by decide +kernel
theorem dXm_thread_9 : decode cXm_thread 9 = .ok (.iconst 0, 1) := by decide +kernel
theorem dXm_thread_10 : decode cXm_thread 10 = .ok (.iconst 5, 1) := by decide +kernel
theorem dXm_thread_11 : decode cXm_thread 11 = .ok (.invokestatic 87, 3) := by decide +kernel
theorem dXm_thread_14 : decode cXm_thread 14 = .ok (.ifCond .ne 7, 3) := by decide +kernel
theorem dXm_thread_17 : decode cXm_thread 17 = .ok (.iconst 1, 1) := by decide +kernel
theorem dXm_thread_18 : decode cXm_thread 18 = .ok (.goto 4, 3) := by decide +kernel
theorem dXm_thread_21 : decode cXm_thread 21 = .ok (.iconst 0, 1) := by decide +kernel
theorem dXm_thread_22 : decode cXm_thread 22 = .ok (.iconst 0, 1) := by decide +kernel
theorem dXm_thread_23 : decode cXm_thread 23 = .ok (.iconst 0, 1) := by decide +kernel
theorem dXm_thread_24 : decode cXm_thread 24 = .ok (.iconst 0, 1) := by decide +kernel
theorem dXm_thread_25 : decode cXm_thread 25 = .ok (.invokevirtual 98, 3) := by decide +kernel
theorem dXm_thread_28 : decode cXm_thread 28 = .ok (.ifCond .eq 5, 3) := by decide +kernel
theorem dXm_thread_31 : decode cXm_thread 31 = .ok (.iconst 0, 1) := by decide +kernel
theorem dXm_thread_32 : decode cXm_thread 32 = .ok (.ireturn, 1) := by decide +kernel
theorem dXm_thread_33 : decode cXm_thread 33 = .ok (.iconst 0, 1) := by decide +kernel
theorem dXm_thread_34 : decode cXm_thread 34 = .ok (.istore_n 3, 1) := by decide +kernel
theorem dXm_thread_35 : decode cXm_thread 35 = .ok (.iconst 0, 1) := by decide +kernel
theorem dXm_thread_36 : decode cXm_thread 36 = .ok (.istore 4, 2) := by decide +kernel
theorem dXm_thread_38 : decode cXm_thread 38 = .ok (.iload 4, 2) := by decide +kernel
theorem dXm_thread_40 : decode cXm_thread 40 = .ok (.bipush 10, 2) := by decide +kernel
theorem dXm_thread_42 : decode cXm_thread 42 = .ok (.if_icmp .ge 28, 3) := by decide +kernel
theorem dXm_thread_45 : decode cXm_thread 45 = .ok (.iload_n 3, 1) := by decide +kernel
theorem dXm_thread_46 : decode cXm_thread 46 = .ok (.aload_n 0, 1) := by decide +kernel
theorem dXm_thread_47 : decode cXm_thread 47 = .ok (.getfield 54, 3) := by decide +kernel
theorem dXm_thread_50 : decode cXm_thread 50 = .ok (.iload 4, 2) := by decide +kernel
theorem dXm_thread_52 : decode cXm_thread 52 = .ok (.iaload, 1) := by decide +kernel
theorem dXm_thread_53 : decode cXm_thread 53 = .ok (.iload_n 1, 1) := by decide +kernel
theorem dXm_thread_54 : decode cXm_thread 54 = .ok (.if_icmp .ne 7, 3) := by decide +kernel
theorem dXm_thread_57 : decode cXm_thread 57 = .ok (.iconst 1, 1) := by decide +kernel
theorem dXm_thread_58 : decode cXm_thread 58 = .ok (.goto 4, 3) := by decide +kernel
theorem dXm_thread_61 : decode cXm_thread 61 = .ok (.iconst 0, 1) := by decide +kernel
theorem dXm_thread_62 : decode cXm_thread 62 = .ok (.iadd, 1) := by decide +kernel
theorem dXm_thread_63 : decode cXm_thread 63 = .ok (.istore_n 3, 1) := by decide +kernel
theorem dXm_thread_64 : decode cXm_thread 64 = .ok (.iinc 4 1, 3) := by decide +kernel
theorem dXm_thread_67 : decode cXm_thread 67 = .ok (.goto (-29), 3) := by decide +kernel
theorem dXm_thread_70 : decode cXm_thread 70 = .ok (.iload_n 2, 1) := by decide +kernel
theorem dXm_thread_71 : decode cXm_thread 71 = .ok (.tableswitch 63 0 4 #[33, 40, 47, 54, 56], 33) := by decide +kernel
theorem dXm_thread_104 : decode cXm_thread 104 = .ok (.aload_n 0, 1) := by decide +kernel
theorem dXm_thread_105 : decode cXm_thread 105 = .ok (.getfield 26, 3) := by decide +kernel
theorem dXm_thread_108 : decode cXm_thread 108 = .ok (.iload_n 1, 1) := by decide +kernel
theorem dXm_thread_109 : decode cXm_thread 109 = .ok (.iaload, 1) := by decide +kernel
theorem dXm_thread_110 : decode cXm_thread 110 = .ok (.ireturn, 1) := by decide +kernel
theorem dXm_thread_111 : decode cXm_thread 111 = .ok (.aload_n 0, 1) := by decide +kernel
theorem dXm_thread_112 : decode cXm_thread 112 = .ok (.getfield 29, 3) := by decide +kernel
theorem dXm_thread_115 : decode cXm_thread 115 = .ok (.iload_n 1, 1) := by decide +kernel
theorem dXm_thread_116 : decode cXm_thread 116 = .ok (.iaload, 1) := by decide +kernel
theorem dXm_thread_117 : decode cXm_thread 117 = .ok (.ireturn, 1) := by decide +kernel
theorem dXm_thread_118 : decode cXm_thread 118 = .ok (.aload_n 0, 1) := by decide +kernel
theorem dXm_thread_119 : decode cXm_thread 119 = .ok (.getfield 32, 3) := by decide +kernel
theorem dXm_thread_122 : decode cXm_thread 122 = .ok (.iload_n 1, 1) := by decide +kernel
theorem dXm_thread_123 : decode cXm_thread 123 = .ok (.iaload, 1) := by decide +kernel
theorem dXm_thread_124 : decode cXm_thread 124 = .ok (.ireturn, 1) := by decide +kernel
theorem dXm_thread_125 : decode cXm_thread 125 = .ok (.iload_n 3, 1) := by decide +kernel
theorem dXm_thread_126 : decode cXm_thread 126 = .ok (.ireturn, 1) := by decide +kernel
theorem dXm_thread_127 : decode cXm_thread 127 = .ok (.aload_n 0, 1) := by decide +kernel
theorem dXm_thread_128 : decode cXm_thread 128 = .ok (.getfield 38, 3) := by decide +kernel
theorem dXm_thread_131 : decode cXm_thread 131 = .ok (.iload_n 1, 1) := by decide +kernel
theorem dXm_thread_132 : decode cXm_thread 132 = .ok (.iaload, 1) := by decide +kernel
theorem dXm_thread_133 : decode cXm_thread 133 = .ok (.ireturn, 1) := by decide +kernel
theorem dXm_thread_134 : decode cXm_thread 134 = .ok (.aload_n 0, 1) := by decide +kernel
theorem dXm_thread_135 : decode cXm_thread 135 = .ok (.getfield 41, 3) := by decide +kernel
theorem dXm_thread_138 : decode cXm_thread 138 = .ok (.iload_n 1, 1) := by decide +kernel
theorem dXm_thread_139 : decode cXm_thread 139 = .ok (.iaload, 1) := by decide +kernel
theorem dXm_thread_140 : decode cXm_thread 140 = .ok (.ireturn, 1) := by decide +kernel
theorem dXm_row_0 : decode cXm_row 0 = .ok (.aload_n 0, 1) := by decide +kernel
theorem dXm_row_1 : decode cXm_row 1 = .ok (.iload_n 1, 1) := by decide +kernel
theorem dXm_row_2 : decode cXm_row 2 = .ok (.iconst 0, 1) := by decide +kernel
theorem dXm_row_3 : decode cXm_row 3 = .ok (.aload_n 0, 1) := by decide +kernel
theorem dXm_row_4 : decode cXm_row 4 = .ok (.getfield 105, 3) := by decide +kernel
theorem dXm_row_7 : decode cXm_row 7 = .ok (.iconst 1, 1) := by decide +kernel
theorem dXm_row_8 : decode cXm_row 8 = .ok (.isub, 1) := by decide +kernel
theorem dXm_row_9 : decode cXm_row 9 = .ok (.invokestatic 87, 3) := by decide +kernel
theorem dXm_row_12 : decode cXm_row 12 = .ok (.ifCond .eq 12, 3) := by decide +kernel
theorem dXm_row_15 : decode cXm_row 15 = .ok (.iload_n 2, 1) := by decide +kernel
theorem dXm_row_16 : decode cXm_row 16 = .ok (.iconst 0, 1) := by decide +kernel
theorem dXm_row_17 : decode cXm_row 17 = .ok (.iconst 3, 1) := by decide +kernel
theorem dXm_row_18 : decode cXm_row 18 = .ok (.invokestatic 87, 3) := by decide +kernel
theorem dXm_row_21 : decode cXm_row 21 = .ok (.ifCond .ne 7, 3) := by decide +kernel
theorem dXm_row_24 : decode cXm_row 24 = .ok (.iconst 1, 1) := by decide +kernel
theorem dXm_row_25 : decode cXm_row 25 = .ok (.goto 4, 3) := by decide +kernel
theorem dXm_row_28 : decode cXm_row 28 = .ok (.iconst 0, 1) := by decide +kernel
theorem dXm_row_29 : decode cXm_row 29 = .ok (.iconst 0, 1) := by decide +kernel
theorem dXm_row_30 : decode cXm_row 30 = .ok (.iconst 0, 1) := by decide +kernel
theorem dXm_row_31 : decode cXm_row 31 = .ok (.iconst 0, 1) := by decide +kernel
theorem dXm_row_32 : decode cXm_row 32 = .ok (.invokevirtual 98, 3) := by decide +kernel
theorem dXm_row_35 : decode cXm_row 35 = .ok (.ifCond .eq 5, 3) := by decide +kernel
theorem dXm_row_38 : decode cXm_row 38 = .ok (.iconst 0, 1) := by decide +kernel
theorem dXm_row_39 : decode cXm_row 39 = .ok (.ireturn, 1) := by decide +kernel
theorem dXm_row_40 : decode cXm_row 40 = .ok (.iload_n 2, 1) := by decide +kernel
theorem dXm_row_41 : decode cXm_row 41 = .ok (.ifCond .ne 12, 3) := by decide +kernel
theorem dXm_row_44 : decode cXm_row 44 = .ok (.aload_n 0, 1) := by decide +kernel
theorem dXm_row_45 : decode cXm_row 45 = .ok (.getfield 72, 3) := by decide +kernel
theorem dXm_row_48 : decode cXm_row 48 = .ok (.iload_n 1, 1) := by decide +kernel
theorem dXm_row_49 : decode cXm_row 49 = .ok (.iaload, 1) := by decide +kernel
theorem dXm_row_50 : decode cXm_row 50 = .ok (.goto 37, 3) := by decide +kernel
theorem dXm_row_53 : decode cXm_row 53 = .ok (.iload_n 2, 1) := by decide +kernel
theorem dXm_row_54 : decode cXm_row 54 = .ok (.iconst 1, 1) := by decide +kernel
theorem dXm_row_55 : decode cXm_row 55 = .ok (.if_icmp .ne 12, 3) := by decide +kernel
theorem dXm_row_58 : decode cXm_row 58 = .ok (.aload_n 0, 1) := by decide +kernel
theorem dXm_row_59 : decode cXm_row 59 = .ok (.getfield 75, 3) := by decide +kernel
theorem dXm_row_62 : decode cXm_row 62 = .ok (.iload_n 1, 1) := by decide +kernel
theorem dXm_row_63 : decode cXm_row 63 = .ok (.iaload, 1) := by decide +kernel
theorem dXm_row_64 : decode cXm_row 64 = .ok (.goto 23, 3) := by decide +kernel
theorem dXm_row_67 : decode cXm_row 67 = .ok (.iload_n 2, 1) := by decide +kernel
theorem dXm_row_68 : decode cXm_row 68 = .ok (.iconst 2, 1) := by decide +kernel
theorem dXm_row_69 : decode cXm_row 69 = .ok (.if_icmp .ne 12, 3) := by decide +kernel
theorem dXm_row_72 : decode cXm_row 72 = .ok (.aload_n 0, 1) := by decide +kernel
theorem dXm_row_73 : decode cXm_row 73 = .ok (.getfield 78, 3) := by decide +kernel
theorem dXm_row_76 : decode cXm_row 76 = .ok (.iload_n 1, 1) := by decide +kernel
theorem dXm_row_77 : decode cXm_row 77 = .ok (.iaload, 1) := by decide +kernel
theorem dXm_row_78 : decode cXm_row 78 = .ok (.goto 9, 3) := by decide +kernel
theorem dXm_row_81 : decode cXm_row 81 = .ok (.aload_n 0, 1) := by decide +kernel
theorem dXm_row_82 : decode cXm_row 82 = .ok (.getfield 81, 3) := by decide +kernel
theorem dXm_row_85 : decode cXm_row 85 = .ok (.iload_n 1, 1) := by decide +kernel
theorem dXm_row_86 : decode cXm_row 86 = .ok (.iaload, 1) := by decide +kernel
theorem dXm_row_87 : decode cXm_row 87 = .ok (.ireturn, 1) := by decide +kernel
theorem dXm_count_0 : decode cXm_count 0 = .ok (.aload_n 0, 1) := by decide +kernel
theorem dXm_count_1 : decode cXm_count 1 = .ok (.iload_n 1, 1) := by decide +kernel
theorem dXm_count_2 : decode cXm_count 2 = .ok (.iconst 0, 1) := by decide +kernel
theorem dXm_count_3 : decode cXm_count 3 = .ok (.iconst 5, 1) := by decide +kernel
theorem dXm_count_4 : decode cXm_count 4 = .ok (.invokestatic 87, 3) := by decide +kernel
theorem dXm_count_7 : decode cXm_count 7 = .ok (.ifCond .ne 7, 3) := by decide +kernel
theorem dXm_count_10 : decode cXm_count 10 = .ok (.iconst 1, 1) := by decide +kernel
theorem dXm_count_11 : decode cXm_count 11 = .ok (.goto 4, 3) := by decide +kernel
theorem dXm_count_14 : decode cXm_count 14 = .ok (.iconst 0, 1) := by decide +kernel
theorem dXm_count_15 : decode cXm_count 15 = .ok (.iconst 0, 1) := by decide +kernel
theorem dXm_count_16 : decode cXm_count 16 = .ok (.iconst 0, 1) := by decide +kernel
theorem dXm_count_17 : decode cXm_count 17 = .ok (.iconst 0, 1) := by decide +kernel
theorem dXm_count_18 : decode cXm_count 18 = .ok (.invokevirtual 98, 3) := by decide +kernel
theorem dXm_count_21 : decode cXm_count 21 = .ok (.ifCond .eq 5, 3) := by decide +kernel
theorem dXm_count_24 : decode cXm_count 24 = .ok (.iconst 0, 1) := by decide +kernel
theorem dXm_count_25 : decode cXm_count 25 = .ok (.ireturn, 1) := by decide +kernel
theorem dXm_count_26 : decode cXm_count 26 = .ok (.iconst 0, 1) := by decide +kernel
theorem dXm_count_27 : decode cXm_count 27 = .ok (.istore_n 2, 1) := by decide +kernel
theorem dXm_count_28 : decode cXm_count 28 = .ok (.iconst 0, 1) := by decide +kernel
theorem dXm_count_29 : decode cXm_count 29 = .ok (.istore_n 3, 1) := by decide +kernel
theorem dXm_count_30 : decode cXm_count 30 = .ok (.iload_n 3, 1) := by decide +kernel
theorem dXm_count_31 : decode cXm_count 31 = .ok (.bipush 8, 2) := by decide +kernel
theorem dXm_count_33 : decode cXm_count 33 = .ok (.if_icmp .ge 35, 3) := by decide +kernel
theorem dXm_count_36 : decode cXm_count 36 = .ok (.iload_n 2, 1) := by decide +kernel
theorem dXm_count_37 : decode cXm_count 37 = .ok (.aload_n 0, 1) := by decide +kernel
theorem dXm_count_38 : decode cXm_count 38 = .ok (.getfield 26, 3) := by decide +kernel
theorem dXm_count_41 : decode cXm_count 41 = .ok (.iload_n 3, 1) := by decide +kernel
theorem dXm_count_42 : decode cXm_count 42 = .ok (.iaload, 1) := by decide +kernel
theorem dXm_count_43 : decode cXm_count 43 = .ok (.ifCond .ne 16, 3) := by decide +kernel
theorem dXm_count_46 : decode cXm_count 46 = .ok (.aload_n 0, 1) := by decide +kernel
theorem dXm_count_47 : decode cXm_count 47 = .ok (.getfield 20, 3) := by decide +kernel
theorem dXm_count_50 : decode cXm_count 50 = .ok (.iload_n 3, 1) := by decide +kernel
theorem dXm_count_51 : decode cXm_count 51 = .ok (.iaload, 1) := by decide +kernel
theorem dXm_count_52 : decode cXm_count 52 = .ok (.ifCond .le 7, 3) := by decide +kernel
theorem dXm_count_55 : decode cXm_count 55 = .ok (.iconst 1, 1) := by decide +kernel
theorem dXm_count_56 : decode cXm_count 56 = .ok (.goto 4, 3) := by decide +kernel
theorem dXm_count_59 : decode cXm_count 59 = .ok (.iconst 0, 1) := by decide +kernel
theorem dXm_count_60 : decode cXm_count 60 = .ok (.iadd, 1) := by decide +kernel
theorem dXm_count_61 : decode cXm_count 61 = .ok (.istore_n 2, 1) := by decide +kernel
theorem dXm_count_62 : decode cXm_count 62 = .ok (.iinc 3 1, 3) := by decide +kernel
theorem dXm_count_65 : decode cXm_count 65 = .ok (.goto (-35), 3) := by decide +kernel
theorem dXm_count_68 : decode cXm_count 68 = .ok (.iconst 0, 1) := by decide +kernel
theorem dXm_count_69 : decode cXm_count 69 = .ok (.istore_n 3, 1) := by decide +kernel
theorem dXm_count_70 : decode cXm_count 70 = .ok (.iconst 0, 1) := by decide +kernel
theorem dXm_count_71 : decode cXm_count 71 = .ok (.istore 4, 2) := by decide +kernel
theorem dXm_count_73 : decode cXm_count 73 = .ok (.iconst 0, 1) := by decide +kernel
theorem dXm_count_74 : decode cXm_count 74 = .ok (.istore 5, 2) := by decide +kernel
theorem dXm_count_76 : decode cXm_count 76 = .ok (.iload 5, 2) := by decide +kernel
theorem dXm_count_78 : decode cXm_count 78 = .ok (.bipush 10, 2) := by decide +kernel
theorem dXm_count_80 : decode cXm_count 80 = .ok (.if_icmp .ge 47, 3) := by decide +kernel
theorem dXm_count_83 : decode cXm_count 83 = .ok (.iload_n 3, 1) := by decide +kernel
theorem dXm_count_84 : decode cXm_count 84 = .ok (.aload_n 0, 1) := by decide +kernel
theorem dXm_count_85 : decode cXm_count 85 = .ok (.getfield 57, 3) := by decide +kernel
theorem dXm_count_88 : decode cXm_count 88 = .ok (.iload 5, 2) := by decide +kernel
theorem dXm_count_90 : decode cXm_count 90 = .ok (.iaload, 1) := by decide +kernel
theorem dXm_count_91 : decode cXm_count 91 = .ok (.ifCond .lt 7, 3) := by decide +kernel
theorem dXm_count_94 : decode cXm_count 94 = .ok (.iconst 1, 1) := by decide +kernel
theorem dXm_count_95 : decode cXm_count 95 = .ok (.goto 4, 3) := by decide +kernel
theorem dXm_count_98 : decode cXm_count 98 = .ok (.iconst 0, 1) := by decide +kernel
theorem dXm_count_99 : decode cXm_count 99 = .ok (.iadd, 1) := by decide +kernel
theorem dXm_count_100 : decode cXm_count 100 = .ok (.istore_n 3, 1) := by decide +kernel
theorem dXm_count_101 : decode cXm_count 101 = .ok (.iload 4, 2) := by decide +kernel
theorem dXm_count_103 : decode cXm_count 103 = .ok (.aload_n 0, 1) := by decide +kernel
theorem dXm_count_104 : decode cXm_count 104 = .ok (.getfield 54, 3) := by decide +kernel
theorem dXm_count_107 : decode cXm_count 107 = .ok (.iload 5, 2) := by decide +kernel
theorem dXm_count_109 : decode cXm_count 109 = .ok (.iaload, 1) := by decide +kernel
theorem dXm_count_110 : decode cXm_count 110 = .ok (.ifCond .lt 7, 3) := by decide +kernel
theorem dXm_count_113 : decode cXm_count 113 = .ok (.iconst 1, 1) := by decide +kernel
theorem dXm_count_114 : decode cXm_count 114 = .ok (.goto 4, 3) := by decide +kernel
theorem dXm_count_117 : decode cXm_count 117 = .ok (.iconst 0, 1) := by decide +kernel
theorem dXm_count_118 : decode cXm_count 118 = .ok (.iadd, 1) := by decide +kernel
theorem dXm_count_119 : decode cXm_count 119 = .ok (.istore 4, 2) := by decide +kernel
theorem dXm_count_121 : decode cXm_count 121 = .ok (.iinc 5 1, 3) := by decide +kernel
theorem dXm_count_124 : decode cXm_count 124 = .ok (.goto (-48), 3) := by decide +kernel
theorem dXm_count_127 : decode cXm_count 127 = .ok (.iconst 0, 1) := by decide +kernel
theorem dXm_count_128 : decode cXm_count 128 = .ok (.istore 5, 2) := by decide +kernel
theorem dXm_count_130 : decode cXm_count 130 = .ok (.iconst 0, 1) := by decide +kernel
theorem dXm_count_131 : decode cXm_count 131 = .ok (.istore 6, 2) := by decide +kernel
theorem dXm_count_133 : decode cXm_count 133 = .ok (.iload 6, 2) := by decide +kernel
theorem dXm_count_135 : decode cXm_count 135 = .ok (.aload_n 0, 1) := by decide +kernel
theorem dXm_count_136 : decode cXm_count 136 = .ok (.getfield 102, 3) := by decide +kernel
theorem dXm_count_139 : decode cXm_count 139 = .ok (.if_icmp .ge 29, 3) := by decide +kernel
theorem dXm_count_142 : decode cXm_count 142 = .ok (.iload 5, 2) := by decide +kernel
theorem dXm_count_144 : decode cXm_count 144 = .ok (.aload_n 0, 1) := by decide +kernel
theorem dXm_count_145 : decode cXm_count 145 = .ok (.getfield 69, 3) := by decide +kernel
theorem dXm_count_148 : decode cXm_count 148 = .ok (.iload 6, 2) := by decide +kernel
theorem dXm_count_150 : decode cXm_count 150 = .ok (.baload, 1) := by decide +kernel
theorem dXm_count_151 : decode cXm_count 151 = .ok (.ifCond .eq 7, 3) := by decide +kernel
theorem dXm_count_154 : decode cXm_count 154 = .ok (.iconst 1, 1) := by decide +kernel
theorem dXm_count_155 : decode cXm_count 155 = .ok (.goto 4, 3) := by decide +kernel
theorem dXm_count_158 : decode cXm_count 158 = .ok (.iconst 0, 1) := by decide +kernel
theorem dXm_count_159 : decode cXm_count 159 = .ok (.iadd, 1) := by decide +kernel
theorem dXm_count_160 : decode cXm_count 160 = .ok (.istore 5, 2) := by decide +kernel
theorem dXm_count_162 : decode cXm_count 162 = .ok (.iinc 6 1, 3) := by decide +kernel
theorem dXm_count_165 : decode cXm_count 165 = .ok (.goto (-32), 3) := by decide +kernel
theorem dXm_count_168 : decode cXm_count 168 = .ok (.iload_n 1, 1) := by decide +kernel
theorem dXm_count_169 : decode cXm_count 169 = .ok (.ifCond .ne 10, 3) := by decide +kernel
theorem dXm_count_172 : decode cXm_count 172 = .ok (.aload_n 0, 1) := by decide +kernel
theorem dXm_count_173 : decode cXm_count 173 = .ok (.getfield 108, 3) := by decide +kernel
theorem dXm_count_176 : decode cXm_count 176 = .ok (.goto 45, 3) := by decide +kernel
theorem dXm_count_179 : decode cXm_count 179 = .ok (.iload_n 1, 1) := by decide +kernel
theorem dXm_count_180 : decode cXm_count 180 = .ok (.iconst 1, 1) := by decide +kernel
theorem dXm_count_181 : decode cXm_count 181 = .ok (.if_icmp .ne 10, 3) := by decide +kernel
theorem dXm_count_184 : decode cXm_count 184 = .ok (.aload_n 0, 1) := by decide +kernel
theorem dXm_count_185 : decode cXm_count 185 = .ok (.getfield 105, 3) := by decide +kernel
theorem dXm_count_188 : decode cXm_count 188 = .ok (.goto 33, 3) := by decide +kernel
theorem dXm_count_191 : decode cXm_count 191 = .ok (.iload_n 1, 1) := by decide +kernel
theorem dXm_count_192 : decode cXm_count 192 = .ok (.iconst 2, 1) := by decide +kernel
theorem dXm_count_193 : decode cXm_count 193 = .ok (.if_icmp .ne 7, 3) := by decide +kernel
theorem dXm_count_196 : decode cXm_count 196 = .ok (.iload_n 2, 1) := by decide +kernel
theorem dXm_count_197 : decode cXm_count 197 = .ok (.goto 24, 3) := by decide +kernel
theorem dXm_count_200 : decode cXm_count 200 = .ok (.iload_n 1, 1) := by decide +kernel
theorem dXm_count_201 : decode cXm_count 201 = .ok (.iconst 3, 1) := by decide +kernel
theorem dXm_count_202 : decode cXm_count 202 = .ok (.if_icmp .ne 7, 3) := by decide +kernel
theorem dXm_count_205 : decode cXm_count 205 = .ok (.iload_n 3, 1) := by decide +kernel
theorem dXm_count_206 : decode cXm_count 206 = .ok (.goto 15, 3) := by decide +kernel
theorem dXm_count_209 : decode cXm_count 209 = .ok (.iload_n 1, 1) := by decide +kernel
theorem dXm_count_210 : decode cXm_count 210 = .ok (.iconst 4, 1) := by decide +kernel
theorem dXm_count_211 : decode cXm_count 211 = .ok (.if_icmp .ne 8, 3) := by decide +kernel
theorem dXm_count_214 : decode cXm_count 214 = .ok (.iload 5, 2) := by decide +kernel
theorem dXm_count_216 : decode cXm_count 216 = .ok (.goto 5, 3) := by decide +kernel
theorem dXm_count_219 : decode cXm_count 219 = .ok (.iload 4, 2) := by decide +kernel
theorem dXm_count_221 : decode cXm_count 221 = .ok (.ireturn, 1) := by decide +kernel
