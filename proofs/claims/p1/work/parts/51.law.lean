def wlLaw (L : Nat) (xs : Nat → Int32) : Nat → Int32 → Nat → Nat → Mm → Mm → (Nat → Int64) → Prop
  | 0 => fun _ _ _ _ _ _ => False
  | n + 1 => fun x4 kc ks M N o => ∀ y_1 : Int32, y_1 = nI L → (∀ y_2 : Int32, y_2 = y_1 - 4 → (((y_2 < x4 → (kc ≤ 74 ∧ ks ≤ 1843)) ∧ (¬ y_2 < x4 → (vp_in x4 L ∧ (∀ y_5 : Int32, y_5 = xs x4.toNatClampNeg → (∀ y_6 : Int32, y_6 = y_5 &&& 15 → (((y_6 = 0 → (∀ y_9 : Int32, y_9 = x4 + 1 → (vp_in y_9 L ∧ (∀ y_11 : Int32, y_11 = xs y_9.toNatClampNeg → (∀ y_12 : Int32, y_12 = x4 + 2 → (vp_in y_12 L ∧ (∀ y_14 : Int32, y_14 = xs y_12.toNatClampNeg → (∀ y_15 : Int32, y_15 = x4 + 3 → (vp_in y_15 L ∧ (∀ y_17 : Int32, y_17 = xs y_15.toNatClampNeg → (kc + 1 ≤ 74 ∧ (ks + 6 ≤ 1843 ∧ (wpXl_act y_11 y_14 y_17 M o (fun r_18 u_21 => (∀ y_24 : Int32, y_24 = x4 + 1 → (vp_in y_24 L ∧ (∀ y_26 : Int32, y_26 = xs y_24.toNatClampNeg → (∀ y_27 : Int32, y_27 = x4 + 2 → (vp_in y_27 L ∧ (∀ y_29 : Int32, y_29 = xs y_27.toNatClampNeg → (∀ y_30 : Int32, y_30 = x4 + 3 → (vp_in y_30 L ∧ (∀ y_32 : Int32, y_32 = xs y_30.toNatClampNeg → ((kc + 1) ≤ 74 ∧ ((ks + 6) ≤ 1843 ∧ (wpXm_act y_26 y_29 y_32 N (fun r_33 M_34 => (wpXm_thrown M_34 (fun r_37 M_38 => (((r_37 = r_18 → (((r_18 = 0 → (∀ y_43 : Int64, y_43 = u_21.2 0 → (∀ y_44 : Int64, y_44 = r_33.toInt64 → (∀ y_45 : Int32, y_45 = lg_cmp y_43 y_44 → (((y_45 = 0 → (∀ x4_47 : Int32, x4_47 = x4 + 4 → (wlLaw L xs n x4_47 (kc + 1) (ks + 6) u_21.1 M_38 u_21.2))) ∧ (¬ y_45 = 0 → (False)))))))) ∧ (¬ r_18 = 0 → (∀ x4_41 : Int32, x4_41 = x4 + 4 → (wlLaw L xs n x4_41 (kc + 1) (ks + 6) u_21.1 M_38 u_21.2)))))) ∧ (¬ r_37 = r_18 → (False))))))))))))))))))))))))))))))))) ∧ (¬ y_6 = 0 → (((y_6 = 1 → (∀ y_49 : Int32, y_49 = x4 + 1 → (vp_in y_49 L ∧ (∀ y_51 : Int32, y_51 = xs y_49.toNatClampNeg → (∀ y_52 : Int32, y_52 = x4 + 2 → (vp_in y_52 L ∧ (∀ y_54 : Int32, y_54 = xs y_52.toNatClampNeg → (kc + 1 ≤ 74 ∧ (ks + 6 ≤ 1843 ∧ (wpXl_finish y_51 y_54 M (fun r_55 M_58 => (∀ y_59 : Int32, y_59 = x4 + 1 → (vp_in y_59 L ∧ (∀ y_61 : Int32, y_61 = xs y_59.toNatClampNeg → (∀ y_62 : Int32, y_62 = x4 + 2 → (vp_in y_62 L ∧ (∀ y_64 : Int32, y_64 = xs y_62.toNatClampNeg → ((kc + 1) ≤ 74 ∧ ((ks + 6) ≤ 1843 ∧ (wpXm_finish y_61 y_64 N (fun M_66 => (wpXm_thrown M_66 (fun r_69 M_70 => (((r_69 = r_55 → (∀ x4_72 : Int32, x4_72 = x4 + 4 → (wlLaw L xs n x4_72 (kc + 1) (ks + 6) M_58 M_70 o))) ∧ (¬ r_69 = r_55 → (False))))))))))))))))))))))))))) ∧ (¬ y_6 = 1 → (((y_6 = 2 → (∀ y_74 : Int32, y_74 = x4 + 1 → (vp_in y_74 L ∧ (∀ y_76 : Int32, y_76 = xs y_74.toNatClampNeg → (kc + 1 ≤ 74 ∧ (ks + 6 ≤ 1843 ∧ (wpXl_call y_76 M o (fun r_77 u_80 => (∀ y_83 : Int32, y_83 = x4 + 1 → (vp_in y_83 L ∧ (∀ y_85 : Int32, y_85 = xs y_83.toNatClampNeg → ((kc + 1) ≤ 74 ∧ ((ks + 6) ≤ 1843 ∧ (wpXm_call y_85 N (fun r_86 M_87 => (wpXm_thrown M_87 (fun r_90 M_91 => (((r_90 = r_77 → (((r_77 = 0 → (∀ y_96 : Int64, y_96 = u_80.2 0 → (∀ y_97 : Int64, y_97 = r_86.toInt64 → (∀ y_98 : Int32, y_98 = lg_cmp y_96 y_97 → (((y_98 = 0 → (∀ x4_100 : Int32, x4_100 = x4 + 4 → (wlLaw L xs n x4_100 (kc + 1) (ks + 6) u_80.1 M_91 u_80.2))) ∧ (¬ y_98 = 0 → (False)))))))) ∧ (¬ r_77 = 0 → (∀ x4_94 : Int32, x4_94 = x4 + 4 → (wlLaw L xs n x4_94 (kc + 1) (ks + 6) u_80.1 M_91 u_80.2)))))) ∧ (¬ r_90 = r_77 → (False))))))))))))))))))))) ∧ (¬ y_6 = 2 → (((y_6 = 3 → (∀ y_102 : Int32, y_102 = x4 + 1 → (vp_in y_102 L ∧ (∀ y_104 : Int32, y_104 = xs y_102.toNatClampNeg → (kc + 1 ≤ 74 ∧ (ks + 6 ≤ 1843 ∧ (wpXl_step y_104 M o (fun r_105 u_108 => (∀ y_111 : Int32, y_111 = x4 + 1 → (vp_in y_111 L ∧ (∀ y_113 : Int32, y_113 = xs y_111.toNatClampNeg → ((kc + 1) ≤ 74 ∧ ((ks + 6) ≤ 1843 ∧ (wpXm_step y_113 N (fun r_114 M_115 => (wpXm_thrown M_115 (fun r_118 M_119 => (((r_118 = r_105 → (((r_105 = 0 → (∀ y_124 : Int64, y_124 = u_108.2 0 → (∀ y_125 : Int64, y_125 = r_114.toInt64 → (∀ y_126 : Int32, y_126 = lg_cmp y_124 y_125 → (((y_126 = 0 → (∀ x4_128 : Int32, x4_128 = x4 + 4 → (wlLaw L xs n x4_128 (kc + 1) (ks + 6) u_108.1 M_119 u_108.2))) ∧ (¬ y_126 = 0 → (False)))))))) ∧ (¬ r_105 = 0 → (∀ x4_122 : Int32, x4_122 = x4 + 4 → (wlLaw L xs n x4_122 (kc + 1) (ks + 6) u_108.1 M_119 u_108.2)))))) ∧ (¬ r_118 = r_105 → (False))))))))))))))))))))) ∧ (¬ y_6 = 3 → (((y_6 = 4 → (∀ y_130 : Int32, y_130 = x4 + 1 → (vp_in y_130 L ∧ (∀ y_132 : Int32, y_132 = xs y_130.toNatClampNeg → (∀ y_133 : Int64, y_133 = y_132.toInt64 → (∀ y_134 : Int64, y_134 = y_133 <<< ((32 : Int32).toInt64 &&& 63) → (∀ y_135 : Int32, y_135 = x4 + 2 → (vp_in y_135 L ∧ (∀ y_137 : Int32, y_137 = xs y_135.toNatClampNeg → (∀ y_138 : Int64, y_138 = y_137.toInt64 → (∀ y_139 : Int64, y_139 = y_138 &&& 4294967295 → (∀ y_140 : Int64, y_140 = y_134 ||| y_139 → (∀ y_141 : Int32, y_141 = x4 + 3 → (vp_in y_141 L ∧ (∀ y_143 : Int32, y_143 = xs y_141.toNatClampNeg → (kc + 1 ≤ 74 ∧ (ks + 6 ≤ 1843 ∧ (wpXl_run y_140 y_143 M o (fun r_144 u_147 => (∀ y_150 : Int32, y_150 = x4 + 1 → (vp_in y_150 L ∧ (∀ y_152 : Int32, y_152 = xs y_150.toNatClampNeg → (∀ y_153 : Int64, y_153 = y_152.toInt64 → (∀ y_154 : Int64, y_154 = y_153 <<< ((32 : Int32).toInt64 &&& 63) → (∀ y_155 : Int32, y_155 = x4 + 2 → (vp_in y_155 L ∧ (∀ y_157 : Int32, y_157 = xs y_155.toNatClampNeg → (∀ y_158 : Int64, y_158 = y_157.toInt64 → (∀ y_159 : Int64, y_159 = y_158 &&& 4294967295 → (∀ y_160 : Int64, y_160 = y_154 ||| y_159 → (∀ y_161 : Int32, y_161 = x4 + 3 → (vp_in y_161 L ∧ (∀ y_163 : Int32, y_163 = xs y_161.toNatClampNeg → ((kc + 1) ≤ 74 ∧ ((ks + 6) ≤ 1843 ∧ (wpXm_run y_160 y_163 N (fun r_164 M_165 => (wpXm_thrown M_165 (fun r_168 M_169 => (((r_168 = r_144 → (((r_144 = 0 → (∀ y_174 : Int64, y_174 = u_147.2 0 → (∀ y_175 : Int64, y_175 = r_164.toInt64 → (∀ y_176 : Int32, y_176 = lg_cmp y_174 y_175 → (((y_176 = 0 → (∀ x4_178 : Int32, x4_178 = x4 + 4 → (wlLaw L xs n x4_178 (kc + 1) (ks + 6) u_147.1 M_169 u_147.2))) ∧ (¬ y_176 = 0 → (False)))))))) ∧ (¬ r_144 = 0 → (∀ x4_172 : Int32, x4_172 = x4 + 4 → (wlLaw L xs n x4_172 (kc + 1) (ks + 6) u_147.1 M_169 u_147.2)))))) ∧ (¬ r_168 = r_144 → (False))))))))))))))))))))))))))))))))))))))))))) ∧ (¬ y_6 = 4 → (((y_6 = 5 → (∀ y_180 : Int32, y_180 = x4 + 1 → (vp_in y_180 L ∧ (∀ y_182 : Int32, y_182 = xs y_180.toNatClampNeg → (kc + 1 ≤ 74 ∧ (ks + 6 ≤ 1843 ∧ (wpXl_kill y_182 M (fun r_183 M_186 => (∀ y_187 : Int32, y_187 = x4 + 1 → (vp_in y_187 L ∧ (∀ y_189 : Int32, y_189 = xs y_187.toNatClampNeg → ((kc + 1) ≤ 74 ∧ ((ks + 6) ≤ 1843 ∧ (wpXm_kill y_189 N (fun M_191 => (wpXm_thrown M_191 (fun r_194 M_195 => (((r_194 = r_183 → (∀ x4_197 : Int32, x4_197 = x4 + 4 → (wlLaw L xs n x4_197 (kc + 1) (ks + 6) M_186 M_195 o))) ∧ (¬ r_194 = r_183 → (False))))))))))))))))))))) ∧ (¬ y_6 = 5 → (((y_6 = 6 → (∀ y_199 : Int32, y_199 = x4 + 1 → (vp_in y_199 L ∧ (∀ y_201 : Int32, y_201 = xs y_199.toNatClampNeg → (kc + 1 ≤ 74 ∧ (ks + 6 ≤ 1843 ∧ (wpXl_restart y_201 M (fun r_202 M_205 => (∀ y_206 : Int32, y_206 = x4 + 1 → (vp_in y_206 L ∧ (∀ y_208 : Int32, y_208 = xs y_206.toNatClampNeg → ((kc + 1) ≤ 74 ∧ ((ks + 6) ≤ 1843 ∧ (wpXm_restart y_208 N (fun M_210 => (wpXm_thrown M_210 (fun r_213 M_214 => (((r_213 = r_202 → (∀ x4_216 : Int32, x4_216 = x4 + 4 → (wlLaw L xs n x4_216 (kc + 1) (ks + 6) M_205 M_214 o))) ∧ (¬ r_213 = r_202 → (False))))))))))))))))))))) ∧ (¬ y_6 = 6 → (((y_6 = 7 → (∀ y_218 : Int32, y_218 = x4 + 1 → (vp_in y_218 L ∧ (∀ y_220 : Int32, y_220 = xs y_218.toNatClampNeg → (kc + 1 ≤ 74 ∧ (ks + 6 ≤ 1843 ∧ (wpXl_lease y_220 M (fun r_221 M_224 => (∀ y_225 : Int32, y_225 = x4 + 1 → (vp_in y_225 L ∧ (∀ y_227 : Int32, y_227 = xs y_225.toNatClampNeg → ((kc + 1) ≤ 74 ∧ ((ks + 6) ≤ 1843 ∧ (wpXm_lease y_227 N (fun M_229 => (wpXm_thrown M_229 (fun r_232 M_233 => (((r_232 = r_221 → (∀ x4_235 : Int32, x4_235 = x4 + 4 → (wlLaw L xs n x4_235 (kc + 1) (ks + 6) M_224 M_233 o))) ∧ (¬ r_232 = r_221 → (False))))))))))))))))))))) ∧ (¬ y_6 = 7 → (((y_6 = 8 → (kc ≤ 74 ∧ (ks ≤ 1843 ∧ (wpXs_close M (fun r_237 M_238 => (wpXm_close N (fun r_241 M_242 => (((r_237 = r_241 → (∀ x4_244 : Int32, x4_244 = x4 + 4 → (wlLaw L xs n x4_244 kc ks M_238 M_242 o))) ∧ (¬ r_237 = r_241 → (False))))))))))) ∧ (¬ y_6 = 8 → (((y_6 = 9 → (∀ y_246 : Int32, y_246 = x4 + 1 → (vp_in y_246 L ∧ (∀ y_248 : Int32, y_248 = xs y_246.toNatClampNeg → (∀ y_249 : Int32, y_249 = x4 + 2 → (vp_in y_249 L ∧ (∀ y_251 : Int32, y_251 = xs y_249.toNatClampNeg → (kc + 1 ≤ 74 ∧ (ks + 6 ≤ 1843 ∧ (wpXl_unit y_248 y_251 M o (fun r_252 u_255 => (∀ y_258 : Int32, y_258 = x4 + 1 → (vp_in y_258 L ∧ (∀ y_260 : Int32, y_260 = xs y_258.toNatClampNeg → (∀ y_261 : Int32, y_261 = x4 + 2 → (vp_in y_261 L ∧ (∀ y_263 : Int32, y_263 = xs y_261.toNatClampNeg → ((kc + 1) ≤ 74 ∧ ((ks + 6) ≤ 1843 ∧ (wpXm_unit y_260 y_263 N (fun r_264 M_265 => (wpXm_thrown M_265 (fun r_268 M_269 => (((r_268 = r_252 → (((r_252 = 0 → (∀ y_274 : Int64, y_274 = u_255.2 0 → (∀ y_275 : Int64, y_275 = r_264.toInt64 → (∀ y_276 : Int32, y_276 = lg_cmp y_274 y_275 → (((y_276 = 0 → (∀ x4_278 : Int32, x4_278 = x4 + 4 → (wlLaw L xs n x4_278 (kc + 1) (ks + 6) u_255.1 M_269 u_255.2))) ∧ (¬ y_276 = 0 → (False)))))))) ∧ (¬ r_252 = 0 → (∀ x4_272 : Int32, x4_272 = x4 + 4 → (wlLaw L xs n x4_272 (kc + 1) (ks + 6) u_255.1 M_269 u_255.2)))))) ∧ (¬ r_268 = r_252 → (False))))))))))))))))))))))))))) ∧ (¬ y_6 = 9 → (((y_6 = 10 → (∀ y_280 : Int32, y_280 = x4 + 1 → (vp_in y_280 L ∧ (∀ y_282 : Int32, y_282 = xs y_280.toNatClampNeg → (∀ y_283 : Int32, y_283 = x4 + 2 → (vp_in y_283 L ∧ (∀ y_285 : Int32, y_285 = xs y_283.toNatClampNeg → (kc + 1 ≤ 74 ∧ (ks + 6 ≤ 1843 ∧ (wpXl_callAt y_282 y_285 M o (fun r_286 u_289 => (∀ y_292 : Int32, y_292 = x4 + 1 → (vp_in y_292 L ∧ (∀ y_294 : Int32, y_294 = xs y_292.toNatClampNeg → (∀ y_295 : Int32, y_295 = x4 + 2 → (vp_in y_295 L ∧ (∀ y_297 : Int32, y_297 = xs y_295.toNatClampNeg → ((kc + 1) ≤ 74 ∧ ((ks + 6) ≤ 1843 ∧ (wpXm_callAt y_294 y_297 N (fun r_298 M_299 => (wpXm_thrown M_299 (fun r_302 M_303 => (((r_302 = r_286 → (((r_286 = 0 → (∀ y_308 : Int64, y_308 = u_289.2 0 → (∀ y_309 : Int64, y_309 = r_298.toInt64 → (∀ y_310 : Int32, y_310 = lg_cmp y_308 y_309 → (((y_310 = 0 → (∀ x4_312 : Int32, x4_312 = x4 + 4 → (wlLaw L xs n x4_312 (kc + 1) (ks + 6) u_289.1 M_303 u_289.2))) ∧ (¬ y_310 = 0 → (False)))))))) ∧ (¬ r_286 = 0 → (∀ x4_306 : Int32, x4_306 = x4 + 4 → (wlLaw L xs n x4_306 (kc + 1) (ks + 6) u_289.1 M_303 u_289.2)))))) ∧ (¬ r_302 = r_286 → (False))))))))))))))))))))))))))) ∧ (¬ y_6 = 10 → (((y_6 = 11 → (∀ y_314 : Int32, y_314 = x4 + 1 → (vp_in y_314 L ∧ (∀ y_316 : Int32, y_316 = xs y_314.toNatClampNeg → (∀ y_317 : Int32, y_317 = x4 + 2 → (vp_in y_317 L ∧ (∀ y_319 : Int32, y_319 = xs y_317.toNatClampNeg → (kc + 1 ≤ 74 ∧ (ks + 6 ≤ 1843 ∧ (wpXl_thread y_316 y_319 M o (fun r_320 u_323 => (∀ y_326 : Int32, y_326 = x4 + 1 → (vp_in y_326 L ∧ (∀ y_328 : Int32, y_328 = xs y_326.toNatClampNeg → (∀ y_329 : Int32, y_329 = x4 + 2 → (vp_in y_329 L ∧ (∀ y_331 : Int32, y_331 = xs y_329.toNatClampNeg → ((kc + 1) ≤ 74 ∧ ((ks + 6) ≤ 1843 ∧ (wpXm_thread y_328 y_331 N (fun r_332 M_333 => (wpXm_thrown M_333 (fun r_336 M_337 => (((r_336 = r_320 → (((r_320 = 0 → (∀ y_342 : Int64, y_342 = u_323.2 0 → (∀ y_343 : Int64, y_343 = r_332.toInt64 → (∀ y_344 : Int32, y_344 = lg_cmp y_342 y_343 → (((y_344 = 0 → (∀ x4_346 : Int32, x4_346 = x4 + 4 → (wlLaw L xs n x4_346 (kc + 1) (ks + 6) u_323.1 M_337 u_323.2))) ∧ (¬ y_344 = 0 → (False)))))))) ∧ (¬ r_320 = 0 → (∀ x4_340 : Int32, x4_340 = x4 + 4 → (wlLaw L xs n x4_340 (kc + 1) (ks + 6) u_323.1 M_337 u_323.2)))))) ∧ (¬ r_336 = r_320 → (False))))))))))))))))))))))))))) ∧ (¬ y_6 = 11 → (((y_6 = 12 → (∀ y_348 : Int32, y_348 = x4 + 1 → (vp_in y_348 L ∧ (∀ y_350 : Int32, y_350 = xs y_348.toNatClampNeg → (∀ y_351 : Int32, y_351 = x4 + 2 → (vp_in y_351 L ∧ (∀ y_353 : Int32, y_353 = xs y_351.toNatClampNeg → (kc + 1 ≤ 74 ∧ (ks + 6 ≤ 1843 ∧ (wpXl_row y_350 y_353 M o (fun r_354 u_357 => (∀ y_360 : Int32, y_360 = x4 + 1 → (vp_in y_360 L ∧ (∀ y_362 : Int32, y_362 = xs y_360.toNatClampNeg → (∀ y_363 : Int32, y_363 = x4 + 2 → (vp_in y_363 L ∧ (∀ y_365 : Int32, y_365 = xs y_363.toNatClampNeg → ((kc + 1) ≤ 74 ∧ ((ks + 6) ≤ 1843 ∧ (wpXm_row y_362 y_365 N (fun r_366 M_367 => (wpXm_thrown M_367 (fun r_370 M_371 => (((r_370 = r_354 → (((r_354 = 0 → (∀ y_376 : Int64, y_376 = u_357.2 0 → (∀ y_377 : Int64, y_377 = r_366.toInt64 → (∀ y_378 : Int32, y_378 = lg_cmp y_376 y_377 → (((y_378 = 0 → (∀ x4_380 : Int32, x4_380 = x4 + 4 → (wlLaw L xs n x4_380 (kc + 1) (ks + 6) u_357.1 M_371 u_357.2))) ∧ (¬ y_378 = 0 → (False)))))))) ∧ (¬ r_354 = 0 → (∀ x4_374 : Int32, x4_374 = x4 + 4 → (wlLaw L xs n x4_374 (kc + 1) (ks + 6) u_357.1 M_371 u_357.2)))))) ∧ (¬ r_370 = r_354 → (False))))))))))))))))))))))))))) ∧ (¬ y_6 = 12 → (((y_6 = 13 → (∀ y_382 : Int32, y_382 = x4 + 1 → (vp_in y_382 L ∧ (∀ y_384 : Int32, y_384 = xs y_382.toNatClampNeg → (kc + 1 ≤ 74 ∧ (ks + 6 ≤ 1843 ∧ (wpXl_count y_384 M o (fun r_385 u_388 => (∀ y_391 : Int32, y_391 = x4 + 1 → (vp_in y_391 L ∧ (∀ y_393 : Int32, y_393 = xs y_391.toNatClampNeg → ((kc + 1) ≤ 74 ∧ ((ks + 6) ≤ 1843 ∧ (wpXm_count y_393 N (fun r_394 M_395 => (wpXm_thrown M_395 (fun r_398 M_399 => (((r_398 = r_385 → (((r_385 = 0 → (∀ y_404 : Int64, y_404 = u_388.2 0 → (∀ y_405 : Int64, y_405 = r_394.toInt64 → (∀ y_406 : Int32, y_406 = lg_cmp y_404 y_405 → (((y_406 = 0 → (∀ x4_408 : Int32, x4_408 = x4 + 4 → (wlLaw L xs n x4_408 (kc + 1) (ks + 6) u_388.1 M_399 u_388.2))) ∧ (¬ y_406 = 0 → (False)))))))) ∧ (¬ r_385 = 0 → (∀ x4_402 : Int32, x4_402 = x4 + 4 → (wlLaw L xs n x4_402 (kc + 1) (ks + 6) u_388.1 M_399 u_388.2)))))) ∧ (¬ r_398 = r_385 → (False))))))))))))))))))))) ∧ (¬ y_6 = 13 → (∀ x4_409 : Int32, x4_409 = x4 + 4 → (wlLaw L xs n x4_409 kc ks M N o)))))))))))))))))))))))))))))))))))))))))))))))))))
/-- what holds all along the law: the machine, the words, the classes, what a throw and a catch want -/
def lwC (p : Program) (l : Launch) (s : State) (m : MethodId) (meth : Method) (c : Code) (b L : Nat) (xs : Nat → Int32) (dC : Nat → ClassId) (dI : Nat → Nat → Nat) (dA dB : Nat → ClassId) (dO : ClassId) : Prop :=
  p.tables.exec = Jvm.exec ∧ c.code = cXl_law ∧ meth.sig.returnType = ret ∧ c.maxLocals = 7 ∧ s.vm.findClass "ServiceThreadsLaw" = some m.cls ∧ (∀ w ∈ wsG, w.before #[Value.ref b] s = true) ∧ va_X b L xs s s.heap ∧ b < s.heap.size ∧ meth.locks = false ∧ l.stackTraces = false ∧ zU (fun q : Nat => s.heap.size ≤ q) s s.heap ∧ sL s ∧ va_K (dC, dI) vwCl (tM dB ++ tH dA dO) s ∧ va_K (dC, dI) vwCl (tM dB) s ∧ va_K (dC, dI) vwCl (tH dA dO) s ∧ va_K (dC, dI) vwCl (tX dA) s
set_option maxHeartbeats 16000000 in
set_option maxRecDepth 100000 in
theorem LwlLaw {p : Program} {l : Launch} {e : Env} {s : State} {m : MethodId} {below : List Frame} {meth : Method} {c : Code} {dC : Nat → ClassId} {dI : Nat → Nat → Nat} {q r : Nat → Nat} {dA dB : Nat → ClassId} {qo : Nat} {dO : ClassId} {b L : Nat} {xs : Nat → Int32} (CX : lwC p l s m meth c b L xs dC dI dA dB dO) : ∀ (n : Nat) (x4 : Int32) (kc ks : Nat) (M N : Mm) (o : Nat → Int64) (H : Heap) (locs : List Loc) (ls : Array Slot), wlLaw L xs n x4 kc ks M N o → va_P (dC, dI) vwCl (wM r dB N ++ wH q dA qo dO (M, o)) H → va_D (fun q : Nat => s.heap.size ≤ q) (wM r dB N ++ wH q dA qo dO (M, o)) → va_S (fun q : Nat => s.heap.size ≤ q) s.heap H locs → lv_has ls 7 [(0, .ref b), (1, .ref (q 0)), (2, .ref (r 0)), (3, .ref qo), (4, .int x4)] → W p l e room_1 s m #[Value.ref b] below meth c H locs kc ks (lw_Z below #[Value.ref b] s) (F0 m 23 ls []) := by
  obtain ⟨hx, hb, hr, hml, hown, hta, hX, hbl, hlocks, hl9, hZ, hsp, hK, hKm, hKh, hKx⟩ := CX
  have hA : ∀ q : Nat, s.heap.size ≤ q → (fun q : Nat => s.heap.size ≤ q) q := fun _ h => h
  have hbA : ¬ (fun q : Nat => s.heap.size ≤ q) b := Nat.not_le.mpr hbl
  intro n
  induction n with
  | zero =>
    intro x4 kc ks M N o H locs ls hw
    exact False.elim hw
  | succ n ih =>
    intro x4 kc ks M N o H locs ls hw hP hD hS hl
    dsimp only [wlLaw] at hw
    refine lv_iload hx hb dXl_law_23 (lv_at hl 4 rfl) ?_
    refine lv_aload_n hx hb dXl_law_25 rfl (lv_at hl 0 rfl) ?_
    refine va_slen hx hb hX hbl hbA hS dXl_law_26 ?_
    refine lv_topi (x := nI L) (fun y_1 ey_1 => ?_)
    have hw := hw y_1 ey_1
    refine lv_iconst (v := 4) hx hb dXl_law_27 (by decide) ?_
    refine lv_isub hx hb dXl_law_28 ?_
    refine lv_topi (fun y_2 ey_2 => ?_)
    have hw := hw y_2 ey_2
    refine lv_icmp_gt (tgt := 903) hx hb dXl_law_29 (by decide) (fun c_3 => ?_) (fun c_3 => ?_)
    · have hw := hw.1 c_3
      refine lv_iconst (v := 1) hx hb dXl_law_903 (by decide) ?_
      refine va_forget (fun q hq => hS.2.2 q hq) ?_
      refine W.widen (k := 74) (n := 1843) hw.1 hw.2 ?_
      exact lw_ret hx hb hr hlocks dXl_law_904
    · have hw := hw.2 c_3
      refine lv_aload_n hx hb dXl_law_32 rfl (lv_at hl 0 rfl) ?_
      refine lv_iload hx hb dXl_law_33 (lv_at hl 4 rfl) ?_
      obtain ⟨h_4, hw⟩ := hw
      refine va_sld hx hb hX hbl hbA hS h_4 dXl_law_35 ?_
      refine lv_topi (fun y_5 ey_5 => ?_)
      have hw := hw y_5 ey_5
      refine lv_bipush (v := 15) hx hb dXl_law_36 (by decide) ?_
      refine lv_iand hx hb dXl_law_38 ?_
      refine lv_topi (fun y_6 ey_6 => ?_)
      have hw := hw y_6 ey_6
      rcases Classical.em (y_6 = 0) with c_8 | c_8
      · have hw := hw.1 c_8
        refine lv_tableIn (tgt := 108) (off := 69) hx hb dXl_law_39 (by rw [c_8]; decide) (by rw [c_8]; decide) (by rw [c_8]; decide) (by decide) ?_
        refine lv_aload_n hx hb dXl_law_108 rfl (lv_at hl 1 rfl) ?_
        refine lv_aload_n hx hb dXl_law_109 rfl (lv_at hl 0 rfl) ?_
        refine lv_iload hx hb dXl_law_110 (lv_at hl 4 rfl) ?_
        refine lv_iconst (v := 1) hx hb dXl_law_112 (by decide) ?_
        refine lv_iadd hx hb dXl_law_113 ?_
        refine lv_topi (fun y_9 ey_9 => ?_)
        have hw := hw y_9 ey_9
        obtain ⟨h_10, hw⟩ := hw
        refine va_sld hx hb hX hbl hbA hS h_10 dXl_law_114 ?_
        refine lv_topi (fun y_11 ey_11 => ?_)
        have hw := hw y_11 ey_11
        refine lv_aload_n hx hb dXl_law_115 rfl (lv_at hl 0 rfl) ?_
        refine lv_iload hx hb dXl_law_116 (lv_at hl 4 rfl) ?_
        refine lv_iconst (v := 2) hx hb dXl_law_118 (by decide) ?_
        refine lv_iadd hx hb dXl_law_119 ?_
        refine lv_topi (fun y_12 ey_12 => ?_)
        have hw := hw y_12 ey_12
        obtain ⟨h_13, hw⟩ := hw
        refine va_sld hx hb hX hbl hbA hS h_13 dXl_law_120 ?_
        refine lv_topi (fun y_14 ey_14 => ?_)
        have hw := hw y_14 ey_14
        refine lv_aload_n hx hb dXl_law_121 rfl (lv_at hl 0 rfl) ?_
        refine lv_iload hx hb dXl_law_122 (lv_at hl 4 rfl) ?_
        refine lv_iconst (v := 3) hx hb dXl_law_124 (by decide) ?_
        refine lv_iadd hx hb dXl_law_125 ?_
        refine lv_topi (fun y_15 ey_15 => ?_)
        have hw := hw y_15 ey_15
        obtain ⟨h_16, hw⟩ := hw
        refine va_sld hx hb hX hbl hbA hS h_16 dXl_law_126 ?_
        refine lv_topi (fun y_17 ey_17 => ?_)
        have hw := hw y_17 ey_17
        refine lv_aload_n hx hb dXl_law_127 rfl (lv_at hl 3 rfl) ?_
        obtain ⟨h_19, h_20, hw⟩ := hw
        refine cq_i (w := (wH q dA qo dO)) (M := (M, o)) (pre := wM r dB N) (wH_ad q dA qo dO) (vx_runSW (As := [.ref (q 0), .int y_11, .int y_14, .int y_17, .ref qo]) (rest := []) ⟨hx, hb, hml, hown, hta⟩ (mtXl_act l hl9 dC dI q dA qo dO H.size y_11 y_14 y_17 M o _ hw) (vx_cwSW 5 hta (giS wt_185 wt_186 wt_0 wt_187) rfl rfl rfl (by decide +kernel) ⟨(Nat.le_of_ble_eq_true rfl), (Nat.le_of_ble_eq_true rfl)⟩) ⟨pWx_blind sL_ok, pWx_of (pre := wM r dB N) (suf := []) sL_ok hKh (wP_r hP) (by rw [List.append_nil]; exact hD) hS hA hZ hsp⟩ rfl rfl hl.1 rfl (lv_room (Nat.le_of_ble_eq_true rfl)) dXl_law_128 ⟨h_19, h_20⟩) hP hD hS hA (fun r_18 u_21 H locs hw hP hD hS => ?_)
        have hP : va_P (dC, dI) vwCl (wM r dB N ++ wH q dA qo dO (u_21.1, u_21.2)) H := hP
        have hD : va_D (fun q : Nat => s.heap.size ≤ q) (wM r dB N ++ wH q dA qo dO (u_21.1, u_21.2)) := hD
        refine lv_istore (lv' := [(5, .int r_18), (0, .ref b), (1, .ref (q 0)), (2, .ref (r 0)), (3, .ref qo), (4, .int x4)]) hx hb dXl_law_131 hl (by decide) rfl (fun ls hl => ?_)
        refine lv_aload_n hx hb dXl_law_133 rfl (lv_at hl 3 rfl) ?_
        refine lv_aload_n hx hb dXl_law_134 rfl (lv_at hl 1 rfl) ?_
        refine lv_iload hx hb dXl_law_135 (lv_at hl 5 rfl) ?_
        refine lv_iconst (v := 1) hx hb dXl_law_137 (by decide) ?_
        refine lv_iadd hx hb dXl_law_138 ?_
        refine lv_topi (fun y_24 ey_24 => ?_)
        have hw := hw y_24 ey_24
        obtain ⟨h_25, hw⟩ := hw
        refine va_sld hx hb hX hbl hbA hS h_25 dXl_law_139 ?_
        refine lv_topi (fun y_26 ey_26 => ?_)
        have hw := hw y_26 ey_26
        refine lv_aload_n hx hb dXl_law_140 rfl (lv_at hl 1 rfl) ?_
        refine lv_iload hx hb dXl_law_141 (lv_at hl 5 rfl) ?_
        refine lv_iconst (v := 2) hx hb dXl_law_143 (by decide) ?_
        refine lv_iadd hx hb dXl_law_144 ?_
        refine lv_topi (fun y_27 ey_27 => ?_)
        have hw := hw y_27 ey_27
        obtain ⟨h_28, hw⟩ := hw
        refine va_sld hx hb hX hbl hbA hS h_28 dXl_law_145 ?_
        refine lv_topi (fun y_29 ey_29 => ?_)
        have hw := hw y_29 ey_29
        refine lv_aload_n hx hb dXl_law_146 rfl (lv_at hl 1 rfl) ?_
        refine lv_iload hx hb dXl_law_147 (lv_at hl 5 rfl) ?_
        refine lv_iconst (v := 3) hx hb dXl_law_149 (by decide) ?_
        refine lv_iadd hx hb dXl_law_150 ?_
        refine lv_topi (fun y_30 ey_30 => ?_)
        have hw := hw y_30 ey_30
        obtain ⟨h_31, hw⟩ := hw
        refine va_sld hx hb hX hbl hbA hS h_31 dXl_law_151 ?_
        refine lv_topi (fun y_32 ey_32 => ?_)
        have hw := hw y_32 ey_32
        obtain ⟨h_35, h_36, hw⟩ := hw
        refine cp_i (w := (wM r dB)) (M := N) (suf := wH q dA qo dO (u_21.1, u_21.2)) (wM_ad r dB) (va_runV (As := [.int y_26, .int y_29, .int y_32]) (rest := []) ⟨hx, hb, hml, hown, hta⟩ (mtXm_act l dC dI r dB H.size y_26 y_29 y_32 N _ hw) (cwV 3 hta (giV wt_654 wt_655 wt_656 wt_7 wt_657) rfl rfl rfl (by decide +kernel) ⟨(Nat.le_of_ble_eq_true rfl), (Nat.le_of_ble_eq_true rfl)⟩) ⟨pW_blind, va_recv hKm (wP_l hP) (ci := 5) (q0 := 0) rfl (wM_0 r dB N), pW_of hKm (wP_l hP) (wD_l hD)⟩ rfl rfl hl.1 rfl (lv_room (Nat.le_of_ble_eq_true rfl)) dXl_law_152 ⟨h_35, h_36⟩) hP hD hS hA (fun r_33 M_34 H locs hw hP hD hS => ?_)
        refine lv_istore (lv' := [(6, .int r_33), (5, .int r_18), (0, .ref b), (1, .ref (q 0)), (2, .ref (r 0)), (3, .ref qo), (4, .int x4)]) hx hb dXl_law_155 hl (by decide) rfl (fun ls hl => ?_)
        refine lv_aload_n hx hb dXl_law_157 rfl (lv_at hl 4 rfl) ?_
        refine cp_i (w := (wM r dB)) (M := M_34) (suf := wH q dA qo dO (u_21.1, u_21.2)) (wM_ad r dB) (va_runV (As := []) (rest := []) ⟨hx, hb, hml, hown, hta⟩ (mtXm_thrown l dC dI r dB H.size M_34 _ hw) (cwV 0 hta (giV wt_650 wt_651 wt_652 wt_7 wt_653) rfl rfl rfl (by decide +kernel) ⟨(Nat.le_of_ble_eq_true rfl), (Nat.le_of_ble_eq_true rfl)⟩) ⟨pW_blind, va_recv hKm (wP_l hP) (ci := 5) (q0 := 0) rfl (wM_0 r dB M_34), pW_of hKm (wP_l hP) (wD_l hD)⟩ rfl rfl hl.1 rfl (lv_room (Nat.le_of_ble_eq_true rfl)) dXl_law_158 ⟨h_35, h_36⟩) hP hD hS hA (fun r_37 M_38 H locs hw hP hD hS => ?_)
        refine lv_iload hx hb dXl_law_161 (lv_at hl 1 rfl) ?_
        refine lv_icmp_eq (tgt := 168) hx hb dXl_law_163 (by decide) (fun c_39 => ?_) (fun c_39 => ?_)
        · have hw := hw.1 c_39
          refine lv_iload hx hb dXl_law_168 (lv_at hl 1 rfl) ?_
          refine lv_if_ne (tgt := 185) hx hb dXl_law_170 (by decide) (fun c_40 => ?_) (fun c_40 => ?_)
          · have hw := hw.2 c_40
            refine lv_goto (tgt := 897) hx hb dXl_law_185 (by decide) ?_
            obtain ⟨x4_41, ex4_41⟩ : ∃ y : Int32, y = x4 + 4 := ⟨_, rfl⟩
            have hw := hw x4_41 ex4_41
            refine lv_iinc (v := x4_41) (lv' := [(4, .int x4_41), (6, .int r_33), (5, .int r_18), (0, .ref b), (1, .ref (q 0)), (2, .ref (r 0)), (3, .ref qo)]) hx hb dXl_law_897 hl (k := 6) rfl (by rw [ex4_41]; rfl) (by decide) rfl (fun ls hl => ?_)
            refine lv_goto (tgt := 23) hx hb dXl_law_900 (by decide) ?_
            exact ih x4_41 (kc + 1) (ks + 6) u_21.1 M_38 u_21.2 _ _ _ hw hP hD hS (lv_sub hl [3, 4, 5, 6, 0] rfl)
          · have hw := hw.1 c_40
            refine lv_aload_n hx hb dXl_law_173 rfl (lv_at hl 5 rfl) ?_
            refine lv_iconst (v := 0) hx hb dXl_law_174 (by decide) ?_
            refine va_lald hx hb hK hP 51 45 rfl rfl (by unfold vp_in; decide) dXl_law_175 ?_
            refine lv_topl (x := u_21.2 0) (fun y_43 ey_43 => ?_)
            have hw := hw y_43 ey_43
            refine lv_iload hx hb dXl_law_176 (lv_at hl 0 rfl) ?_
            refine lv_i2l hx hb dXl_law_178 rfl ?_
            refine lv_topl (fun y_44 ey_44 => ?_)
            have hw := hw y_44 ey_44
            refine W.lcmp hx hb dXl_law_179 ?_
            refine lv_topi (fun y_45 ey_45 => ?_)
            have hw := hw y_45 ey_45
            refine lv_if_eq (tgt := 185) hx hb dXl_law_180 (by decide) (fun c_46 => ?_) (fun c_46 => ?_)
            · have hw := hw.1 c_46
              refine lv_goto (tgt := 897) hx hb dXl_law_185 (by decide) ?_
              obtain ⟨x4_47, ex4_47⟩ : ∃ y : Int32, y = x4 + 4 := ⟨_, rfl⟩
              have hw := hw x4_47 ex4_47
              refine lv_iinc (v := x4_47) (lv' := [(4, .int x4_47), (6, .int r_33), (5, .int r_18), (0, .ref b), (1, .ref (q 0)), (2, .ref (r 0)), (3, .ref qo)]) hx hb dXl_law_897 hl (k := 6) rfl (by rw [ex4_47]; rfl) (by decide) rfl (fun ls hl => ?_)
              refine lv_goto (tgt := 23) hx hb dXl_law_900 (by decide) ?_
              exact ih x4_47 (kc + 1) (ks + 6) u_21.1 M_38 u_21.2 _ _ _ hw hP hD hS (lv_sub hl [3, 4, 5, 6, 0] rfl)
            · have hw := hw.2 c_46
              refine lv_iconst (v := 0) hx hb dXl_law_183 (by decide) ?_
              exact False.elim hw
        · have hw := hw.2 c_39
          refine lv_iconst (v := 0) hx hb dXl_law_166 (by decide) ?_
          exact False.elim hw
      · have hw := hw.2 c_8
        rcases Classical.em (y_6 = 1) with c_48 | c_48
        · have hw := hw.1 c_48
          refine lv_tableIn (tgt := 188) (off := 149) hx hb dXl_law_39 (by rw [c_48]; decide) (by rw [c_48]; decide) (by rw [c_48]; decide) (by decide) ?_
          refine lv_aload_n hx hb dXl_law_188 rfl (lv_at hl 1 rfl) ?_
          refine lv_aload_n hx hb dXl_law_189 rfl (lv_at hl 0 rfl) ?_
          refine lv_iload hx hb dXl_law_190 (lv_at hl 4 rfl) ?_
          refine lv_iconst (v := 1) hx hb dXl_law_192 (by decide) ?_
          refine lv_iadd hx hb dXl_law_193 ?_
          refine lv_topi (fun y_49 ey_49 => ?_)
          have hw := hw y_49 ey_49
          obtain ⟨h_50, hw⟩ := hw
          refine va_sld hx hb hX hbl hbA hS h_50 dXl_law_194 ?_
          refine lv_topi (fun y_51 ey_51 => ?_)
          have hw := hw y_51 ey_51
          refine lv_aload_n hx hb dXl_law_195 rfl (lv_at hl 0 rfl) ?_
          refine lv_iload hx hb dXl_law_196 (lv_at hl 4 rfl) ?_
          refine lv_iconst (v := 2) hx hb dXl_law_198 (by decide) ?_
          refine lv_iadd hx hb dXl_law_199 ?_
          refine lv_topi (fun y_52 ey_52 => ?_)
          have hw := hw y_52 ey_52
          obtain ⟨h_53, hw⟩ := hw
          refine va_sld hx hb hX hbl hbA hS h_53 dXl_law_200 ?_
          refine lv_topi (fun y_54 ey_54 => ?_)
          have hw := hw y_54 ey_54
          obtain ⟨h_56, h_57, hw⟩ := hw
          refine cr_i (w := (wX q dA)) (M := M) (pre := wM r dB N) (suf := [(qo, .inl (dO, 1, .inr (.inl o)))]) (wX_ad q dA) (vx_runSW (As := [.ref (q 0), .int y_51, .int y_54]) (rest := []) ⟨hx, hb, hml, hown, hta⟩ (mtXl_finish l hl9 dC dI q dA H.size y_51 y_54 M _ hw) (vx_cwSW 3 hta (giS wt_329 wt_330 wt_0 wt_331) rfl rfl rfl (by decide +kernel) ⟨(Nat.le_of_ble_eq_true rfl), (Nat.le_of_ble_eq_true rfl)⟩) ⟨pWx_blind sL_ok, pWx_of (pre := wM r dB N) (suf := [(qo, .inl (dO, 1, .inr (.inl o)))]) sL_ok hKx (wP_l (wP_r hP)) hD hS hA hZ hsp⟩ rfl rfl hl.1 rfl (lv_room (Nat.le_of_ble_eq_true rfl)) dXl_law_201 ⟨h_56, h_57⟩) hP hD hS hA (fun r_55 M_58 H locs hw hP hD hS => ?_)
          have hP : va_P (dC, dI) vwCl (wM r dB N ++ wH q dA qo dO (M_58, o)) H := hP
          have hD : va_D (fun q : Nat => s.heap.size ≤ q) (wM r dB N ++ wH q dA qo dO (M_58, o)) := hD
          refine lv_istore (lv' := [(5, .int r_55), (0, .ref b), (1, .ref (q 0)), (2, .ref (r 0)), (3, .ref qo), (4, .int x4)]) hx hb dXl_law_204 hl (by decide) rfl (fun ls hl => ?_)
          refine lv_aload_n hx hb dXl_law_206 rfl (lv_at hl 3 rfl) ?_
          refine lv_aload_n hx hb dXl_law_207 rfl (lv_at hl 1 rfl) ?_
          refine lv_iload hx hb dXl_law_208 (lv_at hl 5 rfl) ?_
          refine lv_iconst (v := 1) hx hb dXl_law_210 (by decide) ?_
          refine lv_iadd hx hb dXl_law_211 ?_
          refine lv_topi (fun y_59 ey_59 => ?_)
          have hw := hw y_59 ey_59
          obtain ⟨h_60, hw⟩ := hw
          refine va_sld hx hb hX hbl hbA hS h_60 dXl_law_212 ?_
          refine lv_topi (fun y_61 ey_61 => ?_)
          have hw := hw y_61 ey_61
          refine lv_aload_n hx hb dXl_law_213 rfl (lv_at hl 1 rfl) ?_
          refine lv_iload hx hb dXl_law_214 (lv_at hl 5 rfl) ?_
          refine lv_iconst (v := 2) hx hb dXl_law_216 (by decide) ?_
          refine lv_iadd hx hb dXl_law_217 ?_
          refine lv_topi (fun y_62 ey_62 => ?_)
          have hw := hw y_62 ey_62
          obtain ⟨h_63, hw⟩ := hw
          refine va_sld hx hb hX hbl hbA hS h_63 dXl_law_218 ?_
          refine lv_topi (fun y_64 ey_64 => ?_)
          have hw := hw y_64 ey_64
          obtain ⟨h_67, h_68, hw⟩ := hw
          refine cp_v (w := (wM r dB)) (M := N) (suf := wH q dA qo dO (M_58, o)) (wM_ad r dB) (va_runV (As := [.int y_61, .int y_64]) (rest := []) ⟨hx, hb, hml, hown, hta⟩ (mtXm_finish l dC dI r dB H.size y_61 y_64 N _ hw) (cwV 2 hta (giV wt_672 wt_673 wt_674 wt_7 wt_675) rfl rfl rfl (by decide +kernel) ⟨(Nat.le_of_ble_eq_true rfl), (Nat.le_of_ble_eq_true rfl)⟩) ⟨pW_blind, va_recv hKm (wP_l hP) (ci := 5) (q0 := 0) rfl (wM_0 r dB N), pW_of hKm (wP_l hP) (wD_l hD)⟩ rfl rfl hl.1 rfl (lv_room (Nat.le_of_ble_eq_true rfl)) dXl_law_219 ⟨h_67, h_68⟩) hP hD hS hA (fun M_66 H locs hw hP hD hS => ?_)
          refine lv_aload_n hx hb dXl_law_222 rfl (lv_at hl 3 rfl) ?_
          refine cp_i (w := (wM r dB)) (M := M_66) (suf := wH q dA qo dO (M_58, o)) (wM_ad r dB) (va_runV (As := []) (rest := []) ⟨hx, hb, hml, hown, hta⟩ (mtXm_thrown l dC dI r dB H.size M_66 _ hw) (cwV 0 hta (giV wt_650 wt_651 wt_652 wt_7 wt_653) rfl rfl rfl (by decide +kernel) ⟨(Nat.le_of_ble_eq_true rfl), (Nat.le_of_ble_eq_true rfl)⟩) ⟨pW_blind, va_recv hKm (wP_l hP) (ci := 5) (q0 := 0) rfl (wM_0 r dB M_66), pW_of hKm (wP_l hP) (wD_l hD)⟩ rfl rfl hl.1 rfl (lv_room (Nat.le_of_ble_eq_true rfl)) dXl_law_223 ⟨h_67, h_68⟩) hP hD hS hA (fun r_69 M_70 H locs hw hP hD hS => ?_)
          refine lv_iload hx hb dXl_law_226 (lv_at hl 0 rfl) ?_
          refine lv_icmp_eq (tgt := 233) hx hb dXl_law_228 (by decide) (fun c_71 => ?_) (fun c_71 => ?_)
          · have hw := hw.1 c_71
            refine lv_goto (tgt := 897) hx hb dXl_law_233 (by decide) ?_
            obtain ⟨x4_72, ex4_72⟩ : ∃ y : Int32, y = x4 + 4 := ⟨_, rfl⟩
            have hw := hw x4_72 ex4_72
            refine lv_iinc (v := x4_72) (lv' := [(4, .int x4_72), (5, .int r_55), (0, .ref b), (1, .ref (q 0)), (2, .ref (r 0)), (3, .ref qo)]) hx hb dXl_law_897 hl (k := 5) rfl (by rw [ex4_72]; rfl) (by decide) rfl (fun ls hl => ?_)
            refine lv_goto (tgt := 23) hx hb dXl_law_900 (by decide) ?_
            exact ih x4_72 (kc + 1) (ks + 6) M_58 M_70 o _ _ _ hw hP hD hS (lv_sub hl [2, 3, 4, 5, 0] rfl)
          · have hw := hw.2 c_71
            refine lv_iconst (v := 0) hx hb dXl_law_231 (by decide) ?_
            exact False.elim hw
        · have hw := hw.2 c_48
          rcases Classical.em (y_6 = 2) with c_73 | c_73
          · have hw := hw.1 c_73
            refine lv_tableIn (tgt := 236) (off := 197) hx hb dXl_law_39 (by rw [c_73]; decide) (by rw [c_73]; decide) (by rw [c_73]; decide) (by decide) ?_
            refine lv_aload_n hx hb dXl_law_236 rfl (lv_at hl 1 rfl) ?_
            refine lv_aload_n hx hb dXl_law_237 rfl (lv_at hl 0 rfl) ?_
            refine lv_iload hx hb dXl_law_238 (lv_at hl 4 rfl) ?_
            refine lv_iconst (v := 1) hx hb dXl_law_240 (by decide) ?_
            refine lv_iadd hx hb dXl_law_241 ?_
            refine lv_topi (fun y_74 ey_74 => ?_)
            have hw := hw y_74 ey_74
            obtain ⟨h_75, hw⟩ := hw
            refine va_sld hx hb hX hbl hbA hS h_75 dXl_law_242 ?_
            refine lv_topi (fun y_76 ey_76 => ?_)
            have hw := hw y_76 ey_76
            refine lv_aload_n hx hb dXl_law_243 rfl (lv_at hl 3 rfl) ?_
            obtain ⟨h_78, h_79, hw⟩ := hw
            refine cq_i (w := (wH q dA qo dO)) (M := (M, o)) (pre := wM r dB N) (wH_ad q dA qo dO) (vx_runSW (As := [.ref (q 0), .int y_76, .ref qo]) (rest := []) ⟨hx, hb, hml, hown, hta⟩ (mtXl_call l hl9 dC dI q dA qo dO H.size y_76 M o _ hw) (vx_cwSW 3 hta (giS wt_345 wt_346 wt_0 wt_347) rfl rfl rfl (by decide +kernel) ⟨(Nat.le_of_ble_eq_true rfl), (Nat.le_of_ble_eq_true rfl)⟩) ⟨pWx_blind sL_ok, pWx_of (pre := wM r dB N) (suf := []) sL_ok hKh (wP_r hP) (by rw [List.append_nil]; exact hD) hS hA hZ hsp⟩ rfl rfl hl.1 rfl (lv_room (Nat.le_of_ble_eq_true rfl)) dXl_law_244 ⟨h_78, h_79⟩) hP hD hS hA (fun r_77 u_80 H locs hw hP hD hS => ?_)
            have hP : va_P (dC, dI) vwCl (wM r dB N ++ wH q dA qo dO (u_80.1, u_80.2)) H := hP
            have hD : va_D (fun q : Nat => s.heap.size ≤ q) (wM r dB N ++ wH q dA qo dO (u_80.1, u_80.2)) := hD
            refine lv_istore (lv' := [(5, .int r_77), (0, .ref b), (1, .ref (q 0)), (2, .ref (r 0)), (3, .ref qo), (4, .int x4)]) hx hb dXl_law_247 hl (by decide) rfl (fun ls hl => ?_)
            refine lv_aload_n hx hb dXl_law_249 rfl (lv_at hl 3 rfl) ?_
            refine lv_aload_n hx hb dXl_law_250 rfl (lv_at hl 1 rfl) ?_
            refine lv_iload hx hb dXl_law_251 (lv_at hl 5 rfl) ?_
            refine lv_iconst (v := 1) hx hb dXl_law_253 (by decide) ?_
            refine lv_iadd hx hb dXl_law_254 ?_
            refine lv_topi (fun y_83 ey_83 => ?_)
            have hw := hw y_83 ey_83
            obtain ⟨h_84, hw⟩ := hw
            refine va_sld hx hb hX hbl hbA hS h_84 dXl_law_255 ?_
            refine lv_topi (fun y_85 ey_85 => ?_)
            have hw := hw y_85 ey_85
            obtain ⟨h_88, h_89, hw⟩ := hw
            refine cp_i (w := (wM r dB)) (M := N) (suf := wH q dA qo dO (u_80.1, u_80.2)) (wM_ad r dB) (va_runV (As := [.int y_85]) (rest := []) ⟨hx, hb, hml, hown, hta⟩ (mtXm_call l dC dI r dB H.size y_85 N _ hw) (cwV 1 hta (giV wt_676 wt_677 wt_678 wt_7 wt_679) rfl rfl rfl (by decide +kernel) ⟨(Nat.le_of_ble_eq_true rfl), (Nat.le_of_ble_eq_true rfl)⟩) ⟨pW_blind, va_recv hKm (wP_l hP) (ci := 5) (q0 := 0) rfl (wM_0 r dB N), pW_of hKm (wP_l hP) (wD_l hD)⟩ rfl rfl hl.1 rfl (lv_room (Nat.le_of_ble_eq_true rfl)) dXl_law_256 ⟨h_88, h_89⟩) hP hD hS hA (fun r_86 M_87 H locs hw hP hD hS => ?_)
            refine lv_istore (lv' := [(6, .int r_86), (5, .int r_77), (0, .ref b), (1, .ref (q 0)), (2, .ref (r 0)), (3, .ref qo), (4, .int x4)]) hx hb dXl_law_259 hl (by decide) rfl (fun ls hl => ?_)
            refine lv_aload_n hx hb dXl_law_261 rfl (lv_at hl 4 rfl) ?_
            refine cp_i (w := (wM r dB)) (M := M_87) (suf := wH q dA qo dO (u_80.1, u_80.2)) (wM_ad r dB) (va_runV (As := []) (rest := []) ⟨hx, hb, hml, hown, hta⟩ (mtXm_thrown l dC dI r dB H.size M_87 _ hw) (cwV 0 hta (giV wt_650 wt_651 wt_652 wt_7 wt_653) rfl rfl rfl (by decide +kernel) ⟨(Nat.le_of_ble_eq_true rfl), (Nat.le_of_ble_eq_true rfl)⟩) ⟨pW_blind, va_recv hKm (wP_l hP) (ci := 5) (q0 := 0) rfl (wM_0 r dB M_87), pW_of hKm (wP_l hP) (wD_l hD)⟩ rfl rfl hl.1 rfl (lv_room (Nat.le_of_ble_eq_true rfl)) dXl_law_262 ⟨h_88, h_89⟩) hP hD hS hA (fun r_90 M_91 H locs hw hP hD hS => ?_)
            refine lv_iload hx hb dXl_law_265 (lv_at hl 1 rfl) ?_
            refine lv_icmp_eq (tgt := 272) hx hb dXl_law_267 (by decide) (fun c_92 => ?_) (fun c_92 => ?_)
            · have hw := hw.1 c_92
              refine lv_iload hx hb dXl_law_272 (lv_at hl 1 rfl) ?_
              refine lv_if_ne (tgt := 289) hx hb dXl_law_274 (by decide) (fun c_93 => ?_) (fun c_93 => ?_)
              · have hw := hw.2 c_93
                refine lv_goto (tgt := 897) hx hb dXl_law_289 (by decide) ?_
                obtain ⟨x4_94, ex4_94⟩ : ∃ y : Int32, y = x4 + 4 := ⟨_, rfl⟩
                have hw := hw x4_94 ex4_94
                refine lv_iinc (v := x4_94) (lv' := [(4, .int x4_94), (6, .int r_86), (5, .int r_77), (0, .ref b), (1, .ref (q 0)), (2, .ref (r 0)), (3, .ref qo)]) hx hb dXl_law_897 hl (k := 6) rfl (by rw [ex4_94]; rfl) (by decide) rfl (fun ls hl => ?_)
                refine lv_goto (tgt := 23) hx hb dXl_law_900 (by decide) ?_
                exact ih x4_94 (kc + 1) (ks + 6) u_80.1 M_91 u_80.2 _ _ _ hw hP hD hS (lv_sub hl [3, 4, 5, 6, 0] rfl)
              · have hw := hw.1 c_93
                refine lv_aload_n hx hb dXl_law_277 rfl (lv_at hl 5 rfl) ?_
                refine lv_iconst (v := 0) hx hb dXl_law_278 (by decide) ?_
                refine va_lald hx hb hK hP 51 45 rfl rfl (by unfold vp_in; decide) dXl_law_279 ?_
                refine lv_topl (x := u_80.2 0) (fun y_96 ey_96 => ?_)
                have hw := hw y_96 ey_96
                refine lv_iload hx hb dXl_law_280 (lv_at hl 0 rfl) ?_
                refine lv_i2l hx hb dXl_law_282 rfl ?_
                refine lv_topl (fun y_97 ey_97 => ?_)
                have hw := hw y_97 ey_97
                refine W.lcmp hx hb dXl_law_283 ?_
                refine lv_topi (fun y_98 ey_98 => ?_)
                have hw := hw y_98 ey_98
                refine lv_if_eq (tgt := 289) hx hb dXl_law_284 (by decide) (fun c_99 => ?_) (fun c_99 => ?_)
                · have hw := hw.1 c_99
                  refine lv_goto (tgt := 897) hx hb dXl_law_289 (by decide) ?_
                  obtain ⟨x4_100, ex4_100⟩ : ∃ y : Int32, y = x4 + 4 := ⟨_, rfl⟩
                  have hw := hw x4_100 ex4_100
                  refine lv_iinc (v := x4_100) (lv' := [(4, .int x4_100), (6, .int r_86), (5, .int r_77), (0, .ref b), (1, .ref (q 0)), (2, .ref (r 0)), (3, .ref qo)]) hx hb dXl_law_897 hl (k := 6) rfl (by rw [ex4_100]; rfl) (by decide) rfl (fun ls hl => ?_)
                  refine lv_goto (tgt := 23) hx hb dXl_law_900 (by decide) ?_
                  exact ih x4_100 (kc + 1) (ks + 6) u_80.1 M_91 u_80.2 _ _ _ hw hP hD hS (lv_sub hl [3, 4, 5, 6, 0] rfl)
                · have hw := hw.2 c_99
                  refine lv_iconst (v := 0) hx hb dXl_law_287 (by decide) ?_
                  exact False.elim hw
            · have hw := hw.2 c_92
              refine lv_iconst (v := 0) hx hb dXl_law_270 (by decide) ?_
              exact False.elim hw
          · have hw := hw.2 c_73
            rcases Classical.em (y_6 = 3) with c_101 | c_101
            · have hw := hw.1 c_101
              refine lv_tableIn (tgt := 292) (off := 253) hx hb dXl_law_39 (by rw [c_101]; decide) (by rw [c_101]; decide) (by rw [c_101]; decide) (by decide) ?_
              refine lv_aload_n hx hb dXl_law_292 rfl (lv_at hl 1 rfl) ?_
              refine lv_aload_n hx hb dXl_law_293 rfl (lv_at hl 0 rfl) ?_
              refine lv_iload hx hb dXl_law_294 (lv_at hl 4 rfl) ?_
              refine lv_iconst (v := 1) hx hb dXl_law_296 (by decide) ?_
              refine lv_iadd hx hb dXl_law_297 ?_
              refine lv_topi (fun y_102 ey_102 => ?_)
              have hw := hw y_102 ey_102
              obtain ⟨h_103, hw⟩ := hw
              refine va_sld hx hb hX hbl hbA hS h_103 dXl_law_298 ?_
              refine lv_topi (fun y_104 ey_104 => ?_)
              have hw := hw y_104 ey_104
              refine lv_aload_n hx hb dXl_law_299 rfl (lv_at hl 3 rfl) ?_
              obtain ⟨h_106, h_107, hw⟩ := hw
              refine cq_i (w := (wH q dA qo dO)) (M := (M, o)) (pre := wM r dB N) (wH_ad q dA qo dO) (vx_runSW (As := [.ref (q 0), .int y_104, .ref qo]) (rest := []) ⟨hx, hb, hml, hown, hta⟩ (mtXl_step l hl9 dC dI q dA qo dO H.size y_104 M o _ hw) (vx_cwSW 3 hta (giS wt_373 wt_374 wt_0 wt_375) rfl rfl rfl (by decide +kernel) ⟨(Nat.le_of_ble_eq_true rfl), (Nat.le_of_ble_eq_true rfl)⟩) ⟨pWx_blind sL_ok, pWx_of (pre := wM r dB N) (suf := []) sL_ok hKh (wP_r hP) (by rw [List.append_nil]; exact hD) hS hA hZ hsp⟩ rfl rfl hl.1 rfl (lv_room (Nat.le_of_ble_eq_true rfl)) dXl_law_300 ⟨h_106, h_107⟩) hP hD hS hA (fun r_105 u_108 H locs hw hP hD hS => ?_)
              have hP : va_P (dC, dI) vwCl (wM r dB N ++ wH q dA qo dO (u_108.1, u_108.2)) H := hP
              have hD : va_D (fun q : Nat => s.heap.size ≤ q) (wM r dB N ++ wH q dA qo dO (u_108.1, u_108.2)) := hD
              refine lv_istore (lv' := [(5, .int r_105), (0, .ref b), (1, .ref (q 0)), (2, .ref (r 0)), (3, .ref qo), (4, .int x4)]) hx hb dXl_law_303 hl (by decide) rfl (fun ls hl => ?_)
              refine lv_aload_n hx hb dXl_law_305 rfl (lv_at hl 3 rfl) ?_
              refine lv_aload_n hx hb dXl_law_306 rfl (lv_at hl 1 rfl) ?_
              refine lv_iload hx hb dXl_law_307 (lv_at hl 5 rfl) ?_
              refine lv_iconst (v := 1) hx hb dXl_law_309 (by decide) ?_
              refine lv_iadd hx hb dXl_law_310 ?_
              refine lv_topi (fun y_111 ey_111 => ?_)
              have hw := hw y_111 ey_111
              obtain ⟨h_112, hw⟩ := hw
              refine va_sld hx hb hX hbl hbA hS h_112 dXl_law_311 ?_
              refine lv_topi (fun y_113 ey_113 => ?_)
              have hw := hw y_113 ey_113
              obtain ⟨h_116, h_117, hw⟩ := hw
              refine cp_i (w := (wM r dB)) (M := N) (suf := wH q dA qo dO (u_108.1, u_108.2)) (wM_ad r dB) (va_runV (As := [.int y_113]) (rest := []) ⟨hx, hb, hml, hown, hta⟩ (mtXm_step l dC dI r dB H.size y_113 N _ hw) (cwV 1 hta (giV wt_680 wt_681 wt_682 wt_7 wt_683) rfl rfl rfl (by decide +kernel) ⟨(Nat.le_of_ble_eq_true rfl), (Nat.le_of_ble_eq_true rfl)⟩) ⟨pW_blind, va_recv hKm (wP_l hP) (ci := 5) (q0 := 0) rfl (wM_0 r dB N), pW_of hKm (wP_l hP) (wD_l hD)⟩ rfl rfl hl.1 rfl (lv_room (Nat.le_of_ble_eq_true rfl)) dXl_law_312 ⟨h_116, h_117⟩) hP hD hS hA (fun r_114 M_115 H locs hw hP hD hS => ?_)
              refine lv_istore (lv' := [(6, .int r_114), (5, .int r_105), (0, .ref b), (1, .ref (q 0)), (2, .ref (r 0)), (3, .ref qo), (4, .int x4)]) hx hb dXl_law_315 hl (by decide) rfl (fun ls hl => ?_)
              refine lv_aload_n hx hb dXl_law_317 rfl (lv_at hl 4 rfl) ?_
              refine cp_i (w := (wM r dB)) (M := M_115) (suf := wH q dA qo dO (u_108.1, u_108.2)) (wM_ad r dB) (va_runV (As := []) (rest := []) ⟨hx, hb, hml, hown, hta⟩ (mtXm_thrown l dC dI r dB H.size M_115 _ hw) (cwV 0 hta (giV wt_650 wt_651 wt_652 wt_7 wt_653) rfl rfl rfl (by decide +kernel) ⟨(Nat.le_of_ble_eq_true rfl), (Nat.le_of_ble_eq_true rfl)⟩) ⟨pW_blind, va_recv hKm (wP_l hP) (ci := 5) (q0 := 0) rfl (wM_0 r dB M_115), pW_of hKm (wP_l hP) (wD_l hD)⟩ rfl rfl hl.1 rfl (lv_room (Nat.le_of_ble_eq_true rfl)) dXl_law_318 ⟨h_116, h_117⟩) hP hD hS hA (fun r_118 M_119 H locs hw hP hD hS => ?_)
              refine lv_iload hx hb dXl_law_321 (lv_at hl 1 rfl) ?_
              refine lv_icmp_eq (tgt := 328) hx hb dXl_law_323 (by decide) (fun c_120 => ?_) (fun c_120 => ?_)
              · have hw := hw.1 c_120
                refine lv_iload hx hb dXl_law_328 (lv_at hl 1 rfl) ?_
                refine lv_if_ne (tgt := 345) hx hb dXl_law_330 (by decide) (fun c_121 => ?_) (fun c_121 => ?_)
                · have hw := hw.2 c_121
                  refine lv_goto (tgt := 897) hx hb dXl_law_345 (by decide) ?_
                  obtain ⟨x4_122, ex4_122⟩ : ∃ y : Int32, y = x4 + 4 := ⟨_, rfl⟩
                  have hw := hw x4_122 ex4_122
                  refine lv_iinc (v := x4_122) (lv' := [(4, .int x4_122), (6, .int r_114), (5, .int r_105), (0, .ref b), (1, .ref (q 0)), (2, .ref (r 0)), (3, .ref qo)]) hx hb dXl_law_897 hl (k := 6) rfl (by rw [ex4_122]; rfl) (by decide) rfl (fun ls hl => ?_)
                  refine lv_goto (tgt := 23) hx hb dXl_law_900 (by decide) ?_
                  exact ih x4_122 (kc + 1) (ks + 6) u_108.1 M_119 u_108.2 _ _ _ hw hP hD hS (lv_sub hl [3, 4, 5, 6, 0] rfl)
                · have hw := hw.1 c_121
                  refine lv_aload_n hx hb dXl_law_333 rfl (lv_at hl 5 rfl) ?_
                  refine lv_iconst (v := 0) hx hb dXl_law_334 (by decide) ?_
                  refine va_lald hx hb hK hP 51 45 rfl rfl (by unfold vp_in; decide) dXl_law_335 ?_
                  refine lv_topl (x := u_108.2 0) (fun y_124 ey_124 => ?_)
                  have hw := hw y_124 ey_124
                  refine lv_iload hx hb dXl_law_336 (lv_at hl 0 rfl) ?_
                  refine lv_i2l hx hb dXl_law_338 rfl ?_
                  refine lv_topl (fun y_125 ey_125 => ?_)
                  have hw := hw y_125 ey_125
                  refine W.lcmp hx hb dXl_law_339 ?_
                  refine lv_topi (fun y_126 ey_126 => ?_)
                  have hw := hw y_126 ey_126
                  refine lv_if_eq (tgt := 345) hx hb dXl_law_340 (by decide) (fun c_127 => ?_) (fun c_127 => ?_)
                  · have hw := hw.1 c_127
                    refine lv_goto (tgt := 897) hx hb dXl_law_345 (by decide) ?_
                    obtain ⟨x4_128, ex4_128⟩ : ∃ y : Int32, y = x4 + 4 := ⟨_, rfl⟩
                    have hw := hw x4_128 ex4_128
                    refine lv_iinc (v := x4_128) (lv' := [(4, .int x4_128), (6, .int r_114), (5, .int r_105), (0, .ref b), (1, .ref (q 0)), (2, .ref (r 0)), (3, .ref qo)]) hx hb dXl_law_897 hl (k := 6) rfl (by rw [ex4_128]; rfl) (by decide) rfl (fun ls hl => ?_)
                    refine lv_goto (tgt := 23) hx hb dXl_law_900 (by decide) ?_
                    exact ih x4_128 (kc + 1) (ks + 6) u_108.1 M_119 u_108.2 _ _ _ hw hP hD hS (lv_sub hl [3, 4, 5, 6, 0] rfl)
                  · have hw := hw.2 c_127
                    refine lv_iconst (v := 0) hx hb dXl_law_343 (by decide) ?_
                    exact False.elim hw
              · have hw := hw.2 c_120
                refine lv_iconst (v := 0) hx hb dXl_law_326 (by decide) ?_
                exact False.elim hw
            · have hw := hw.2 c_101
              rcases Classical.em (y_6 = 4) with c_129 | c_129
              · have hw := hw.1 c_129
                refine lv_tableIn (tgt := 348) (off := 309) hx hb dXl_law_39 (by rw [c_129]; decide) (by rw [c_129]; decide) (by rw [c_129]; decide) (by decide) ?_
                refine lv_aload_n hx hb dXl_law_348 rfl (lv_at hl 1 rfl) ?_
                refine lv_aload_n hx hb dXl_law_349 rfl (lv_at hl 0 rfl) ?_
                refine lv_iload hx hb dXl_law_350 (lv_at hl 4 rfl) ?_
                refine lv_iconst (v := 1) hx hb dXl_law_352 (by decide) ?_
                refine lv_iadd hx hb dXl_law_353 ?_
                refine lv_topi (fun y_130 ey_130 => ?_)
                have hw := hw y_130 ey_130
                obtain ⟨h_131, hw⟩ := hw
                refine va_sld hx hb hX hbl hbA hS h_131 dXl_law_354 ?_
                refine lv_topi (fun y_132 ey_132 => ?_)
                have hw := hw y_132 ey_132
                refine lv_i2l hx hb dXl_law_355 rfl ?_
                refine lv_topl (fun y_133 ey_133 => ?_)
                have hw := hw y_133 ey_133
                refine lv_bipush (v := 32) hx hb dXl_law_356 (by decide) ?_
                refine lv_lshl hx hb dXl_law_358 rfl ?_
                refine lv_topl (fun y_134 ey_134 => ?_)
                have hw := hw y_134 ey_134
                refine lv_aload_n hx hb dXl_law_359 rfl (lv_at hl 0 rfl) ?_
                refine lv_iload hx hb dXl_law_360 (lv_at hl 4 rfl) ?_
                refine lv_iconst (v := 2) hx hb dXl_law_362 (by decide) ?_
                refine lv_iadd hx hb dXl_law_363 ?_
                refine lv_topi (fun y_135 ey_135 => ?_)
                have hw := hw y_135 ey_135
                obtain ⟨h_136, hw⟩ := hw
                refine va_sld hx hb hX hbl hbA hS h_136 dXl_law_364 ?_
                refine lv_topi (fun y_137 ey_137 => ?_)
                have hw := hw y_137 ey_137
                refine lv_i2l hx hb dXl_law_365 rfl ?_
                refine lv_topl (fun y_138 ey_138 => ?_)
                have hw := hw y_138 ey_138
                refine lv_ldc2 hx hb hown (hta _ wt_788) dXl_law_366 ?_
                refine lv_land hx hb dXl_law_369 ?_
                refine lv_topl (fun y_139 ey_139 => ?_)
                have hw := hw y_139 ey_139
                refine lv_lor hx hb dXl_law_370 ?_
                refine lv_topl (fun y_140 ey_140 => ?_)
                have hw := hw y_140 ey_140
                refine lv_aload_n hx hb dXl_law_371 rfl (lv_at hl 0 rfl) ?_
                refine lv_iload hx hb dXl_law_372 (lv_at hl 4 rfl) ?_
                refine lv_iconst (v := 3) hx hb dXl_law_374 (by decide) ?_
                refine lv_iadd hx hb dXl_law_375 ?_
                refine lv_topi (fun y_141 ey_141 => ?_)
                have hw := hw y_141 ey_141
                obtain ⟨h_142, hw⟩ := hw
                refine va_sld hx hb hX hbl hbA hS h_142 dXl_law_376 ?_
                refine lv_topi (fun y_143 ey_143 => ?_)
                have hw := hw y_143 ey_143
                refine lv_aload_n hx hb dXl_law_377 rfl (lv_at hl 3 rfl) ?_
                obtain ⟨h_145, h_146, hw⟩ := hw
                refine cq_i (w := (wH q dA qo dO)) (M := (M, o)) (pre := wM r dB N) (wH_ad q dA qo dO) (vx_runSW (As := [.ref (q 0), .long y_140, .int y_143, .ref qo]) (rest := []) ⟨hx, hb, hml, hown, hta⟩ (mtXl_run l hl9 dC dI q dA qo dO H.size y_140 y_143 M o _ hw) (vx_cwSW 4 hta (giS wt_447 wt_448 wt_0 wt_449) rfl rfl rfl (by decide +kernel) ⟨(Nat.le_of_ble_eq_true rfl), (Nat.le_of_ble_eq_true rfl)⟩) ⟨pWx_blind sL_ok, pWx_of (pre := wM r dB N) (suf := []) sL_ok hKh (wP_r hP) (by rw [List.append_nil]; exact hD) hS hA hZ hsp⟩ rfl rfl hl.1 rfl (lv_room (Nat.le_of_ble_eq_true rfl)) dXl_law_378 ⟨h_145, h_146⟩) hP hD hS hA (fun r_144 u_147 H locs hw hP hD hS => ?_)
                have hP : va_P (dC, dI) vwCl (wM r dB N ++ wH q dA qo dO (u_147.1, u_147.2)) H := hP
                have hD : va_D (fun q : Nat => s.heap.size ≤ q) (wM r dB N ++ wH q dA qo dO (u_147.1, u_147.2)) := hD
                refine lv_istore (lv' := [(5, .int r_144), (0, .ref b), (1, .ref (q 0)), (2, .ref (r 0)), (3, .ref qo), (4, .int x4)]) hx hb dXl_law_381 hl (by decide) rfl (fun ls hl => ?_)
                refine lv_aload_n hx hb dXl_law_383 rfl (lv_at hl 3 rfl) ?_
                refine lv_aload_n hx hb dXl_law_384 rfl (lv_at hl 1 rfl) ?_
                refine lv_iload hx hb dXl_law_385 (lv_at hl 5 rfl) ?_
                refine lv_iconst (v := 1) hx hb dXl_law_387 (by decide) ?_
                refine lv_iadd hx hb dXl_law_388 ?_
                refine lv_topi (fun y_150 ey_150 => ?_)
                have hw := hw y_150 ey_150
                obtain ⟨h_151, hw⟩ := hw
                refine va_sld hx hb hX hbl hbA hS h_151 dXl_law_389 ?_
                refine lv_topi (fun y_152 ey_152 => ?_)
                have hw := hw y_152 ey_152
                refine lv_i2l hx hb dXl_law_390 rfl ?_
                refine lv_topl (fun y_153 ey_153 => ?_)
                have hw := hw y_153 ey_153
                refine lv_bipush (v := 32) hx hb dXl_law_391 (by decide) ?_
                refine lv_lshl hx hb dXl_law_393 rfl ?_
                refine lv_topl (fun y_154 ey_154 => ?_)
                have hw := hw y_154 ey_154
                refine lv_aload_n hx hb dXl_law_394 rfl (lv_at hl 1 rfl) ?_
                refine lv_iload hx hb dXl_law_395 (lv_at hl 5 rfl) ?_
                refine lv_iconst (v := 2) hx hb dXl_law_397 (by decide) ?_
                refine lv_iadd hx hb dXl_law_398 ?_
                refine lv_topi (fun y_155 ey_155 => ?_)
                have hw := hw y_155 ey_155
                obtain ⟨h_156, hw⟩ := hw
                refine va_sld hx hb hX hbl hbA hS h_156 dXl_law_399 ?_
                refine lv_topi (fun y_157 ey_157 => ?_)
                have hw := hw y_157 ey_157
                refine lv_i2l hx hb dXl_law_400 rfl ?_
                refine lv_topl (fun y_158 ey_158 => ?_)
                have hw := hw y_158 ey_158
                refine lv_ldc2 hx hb hown (hta _ wt_788) dXl_law_401 ?_
                refine lv_land hx hb dXl_law_404 ?_
                refine lv_topl (fun y_159 ey_159 => ?_)
                have hw := hw y_159 ey_159
                refine lv_lor hx hb dXl_law_405 ?_
                refine lv_topl (fun y_160 ey_160 => ?_)
                have hw := hw y_160 ey_160
                refine lv_aload_n hx hb dXl_law_406 rfl (lv_at hl 1 rfl) ?_
                refine lv_iload hx hb dXl_law_407 (lv_at hl 5 rfl) ?_
                refine lv_iconst (v := 3) hx hb dXl_law_409 (by decide) ?_
                refine lv_iadd hx hb dXl_law_410 ?_
                refine lv_topi (fun y_161 ey_161 => ?_)
                have hw := hw y_161 ey_161
                obtain ⟨h_162, hw⟩ := hw
                refine va_sld hx hb hX hbl hbA hS h_162 dXl_law_411 ?_
                refine lv_topi (fun y_163 ey_163 => ?_)
                have hw := hw y_163 ey_163
                obtain ⟨h_166, h_167, hw⟩ := hw
                refine cp_i (w := (wM r dB)) (M := N) (suf := wH q dA qo dO (u_147.1, u_147.2)) (wM_ad r dB) (va_runV (As := [.long y_160, .int y_163]) (rest := []) ⟨hx, hb, hml, hown, hta⟩ (mtXm_run l dC dI r dB H.size y_160 y_163 N _ hw) (cwV 2 hta (giV wt_744 wt_745 wt_746 wt_7 wt_747) rfl rfl rfl (by decide +kernel) ⟨(Nat.le_of_ble_eq_true rfl), (Nat.le_of_ble_eq_true rfl)⟩) ⟨pW_blind, va_recv hKm (wP_l hP) (ci := 5) (q0 := 0) rfl (wM_0 r dB N), pW_of hKm (wP_l hP) (wD_l hD)⟩ rfl rfl hl.1 rfl (lv_room (Nat.le_of_ble_eq_true rfl)) dXl_law_412 ⟨h_166, h_167⟩) hP hD hS hA (fun r_164 M_165 H locs hw hP hD hS => ?_)
                refine lv_istore (lv' := [(6, .int r_164), (5, .int r_144), (0, .ref b), (1, .ref (q 0)), (2, .ref (r 0)), (3, .ref qo), (4, .int x4)]) hx hb dXl_law_415 hl (by decide) rfl (fun ls hl => ?_)
                refine lv_aload_n hx hb dXl_law_417 rfl (lv_at hl 4 rfl) ?_
                refine cp_i (w := (wM r dB)) (M := M_165) (suf := wH q dA qo dO (u_147.1, u_147.2)) (wM_ad r dB) (va_runV (As := []) (rest := []) ⟨hx, hb, hml, hown, hta⟩ (mtXm_thrown l dC dI r dB H.size M_165 _ hw) (cwV 0 hta (giV wt_650 wt_651 wt_652 wt_7 wt_653) rfl rfl rfl (by decide +kernel) ⟨(Nat.le_of_ble_eq_true rfl), (Nat.le_of_ble_eq_true rfl)⟩) ⟨pW_blind, va_recv hKm (wP_l hP) (ci := 5) (q0 := 0) rfl (wM_0 r dB M_165), pW_of hKm (wP_l hP) (wD_l hD)⟩ rfl rfl hl.1 rfl (lv_room (Nat.le_of_ble_eq_true rfl)) dXl_law_418 ⟨h_166, h_167⟩) hP hD hS hA (fun r_168 M_169 H locs hw hP hD hS => ?_)
                refine lv_iload hx hb dXl_law_421 (lv_at hl 1 rfl) ?_
                refine lv_icmp_eq (tgt := 428) hx hb dXl_law_423 (by decide) (fun c_170 => ?_) (fun c_170 => ?_)
                · have hw := hw.1 c_170
                  refine lv_iload hx hb dXl_law_428 (lv_at hl 1 rfl) ?_
                  refine lv_if_ne (tgt := 445) hx hb dXl_law_430 (by decide) (fun c_171 => ?_) (fun c_171 => ?_)
                  · have hw := hw.2 c_171
                    refine lv_goto (tgt := 897) hx hb dXl_law_445 (by decide) ?_
                    obtain ⟨x4_172, ex4_172⟩ : ∃ y : Int32, y = x4 + 4 := ⟨_, rfl⟩
                    have hw := hw x4_172 ex4_172
                    refine lv_iinc (v := x4_172) (lv' := [(4, .int x4_172), (6, .int r_164), (5, .int r_144), (0, .ref b), (1, .ref (q 0)), (2, .ref (r 0)), (3, .ref qo)]) hx hb dXl_law_897 hl (k := 6) rfl (by rw [ex4_172]; rfl) (by decide) rfl (fun ls hl => ?_)
                    refine lv_goto (tgt := 23) hx hb dXl_law_900 (by decide) ?_
                    exact ih x4_172 (kc + 1) (ks + 6) u_147.1 M_169 u_147.2 _ _ _ hw hP hD hS (lv_sub hl [3, 4, 5, 6, 0] rfl)
                  · have hw := hw.1 c_171
                    refine lv_aload_n hx hb dXl_law_433 rfl (lv_at hl 5 rfl) ?_
                    refine lv_iconst (v := 0) hx hb dXl_law_434 (by decide) ?_
                    refine va_lald hx hb hK hP 51 45 rfl rfl (by unfold vp_in; decide) dXl_law_435 ?_
                    refine lv_topl (x := u_147.2 0) (fun y_174 ey_174 => ?_)
                    have hw := hw y_174 ey_174
                    refine lv_iload hx hb dXl_law_436 (lv_at hl 0 rfl) ?_
                    refine lv_i2l hx hb dXl_law_438 rfl ?_
                    refine lv_topl (fun y_175 ey_175 => ?_)
                    have hw := hw y_175 ey_175
                    refine W.lcmp hx hb dXl_law_439 ?_
                    refine lv_topi (fun y_176 ey_176 => ?_)
                    have hw := hw y_176 ey_176
                    refine lv_if_eq (tgt := 445) hx hb dXl_law_440 (by decide) (fun c_177 => ?_) (fun c_177 => ?_)
                    · have hw := hw.1 c_177
                      refine lv_goto (tgt := 897) hx hb dXl_law_445 (by decide) ?_
                      obtain ⟨x4_178, ex4_178⟩ : ∃ y : Int32, y = x4 + 4 := ⟨_, rfl⟩
                      have hw := hw x4_178 ex4_178
                      refine lv_iinc (v := x4_178) (lv' := [(4, .int x4_178), (6, .int r_164), (5, .int r_144), (0, .ref b), (1, .ref (q 0)), (2, .ref (r 0)), (3, .ref qo)]) hx hb dXl_law_897 hl (k := 6) rfl (by rw [ex4_178]; rfl) (by decide) rfl (fun ls hl => ?_)
                      refine lv_goto (tgt := 23) hx hb dXl_law_900 (by decide) ?_
                      exact ih x4_178 (kc + 1) (ks + 6) u_147.1 M_169 u_147.2 _ _ _ hw hP hD hS (lv_sub hl [3, 4, 5, 6, 0] rfl)
                    · have hw := hw.2 c_177
                      refine lv_iconst (v := 0) hx hb dXl_law_443 (by decide) ?_
                      exact False.elim hw
                · have hw := hw.2 c_170
                  refine lv_iconst (v := 0) hx hb dXl_law_426 (by decide) ?_
                  exact False.elim hw
              · have hw := hw.2 c_129
                rcases Classical.em (y_6 = 5) with c_179 | c_179
                · have hw := hw.1 c_179
                  refine lv_tableIn (tgt := 448) (off := 409) hx hb dXl_law_39 (by rw [c_179]; decide) (by rw [c_179]; decide) (by rw [c_179]; decide) (by decide) ?_
                  refine lv_aload_n hx hb dXl_law_448 rfl (lv_at hl 1 rfl) ?_
                  refine lv_aload_n hx hb dXl_law_449 rfl (lv_at hl 0 rfl) ?_
                  refine lv_iload hx hb dXl_law_450 (lv_at hl 4 rfl) ?_
                  refine lv_iconst (v := 1) hx hb dXl_law_452 (by decide) ?_
                  refine lv_iadd hx hb dXl_law_453 ?_
                  refine lv_topi (fun y_180 ey_180 => ?_)
                  have hw := hw y_180 ey_180
                  obtain ⟨h_181, hw⟩ := hw
                  refine va_sld hx hb hX hbl hbA hS h_181 dXl_law_454 ?_
                  refine lv_topi (fun y_182 ey_182 => ?_)
                  have hw := hw y_182 ey_182
                  obtain ⟨h_184, h_185, hw⟩ := hw
                  refine cr_i (w := (wX q dA)) (M := M) (pre := wM r dB N) (suf := [(qo, .inl (dO, 1, .inr (.inl o)))]) (wX_ad q dA) (vx_runSW (As := [.ref (q 0), .int y_182]) (rest := []) ⟨hx, hb, hml, hown, hta⟩ (mtXl_kill l hl9 dC dI q dA H.size y_182 M _ hw) (vx_cwSW 2 hta (giS wt_456 wt_457 wt_0 wt_458) rfl rfl rfl (by decide +kernel) ⟨(Nat.le_of_ble_eq_true rfl), (Nat.le_of_ble_eq_true rfl)⟩) ⟨pWx_blind sL_ok, pWx_of (pre := wM r dB N) (suf := [(qo, .inl (dO, 1, .inr (.inl o)))]) sL_ok hKx (wP_l (wP_r hP)) hD hS hA hZ hsp⟩ rfl rfl hl.1 rfl (lv_room (Nat.le_of_ble_eq_true rfl)) dXl_law_455 ⟨h_184, h_185⟩) hP hD hS hA (fun r_183 M_186 H locs hw hP hD hS => ?_)
                  have hP : va_P (dC, dI) vwCl (wM r dB N ++ wH q dA qo dO (M_186, o)) H := hP
                  have hD : va_D (fun q : Nat => s.heap.size ≤ q) (wM r dB N ++ wH q dA qo dO (M_186, o)) := hD
                  refine lv_istore (lv' := [(5, .int r_183), (0, .ref b), (1, .ref (q 0)), (2, .ref (r 0)), (3, .ref qo), (4, .int x4)]) hx hb dXl_law_458 hl (by decide) rfl (fun ls hl => ?_)
                  refine lv_aload_n hx hb dXl_law_460 rfl (lv_at hl 3 rfl) ?_
                  refine lv_aload_n hx hb dXl_law_461 rfl (lv_at hl 1 rfl) ?_
                  refine lv_iload hx hb dXl_law_462 (lv_at hl 5 rfl) ?_
                  refine lv_iconst (v := 1) hx hb dXl_law_464 (by decide) ?_
                  refine lv_iadd hx hb dXl_law_465 ?_
                  refine lv_topi (fun y_187 ey_187 => ?_)
                  have hw := hw y_187 ey_187
                  obtain ⟨h_188, hw⟩ := hw
                  refine va_sld hx hb hX hbl hbA hS h_188 dXl_law_466 ?_
                  refine lv_topi (fun y_189 ey_189 => ?_)
                  have hw := hw y_189 ey_189
                  obtain ⟨h_192, h_193, hw⟩ := hw
                  refine cp_v (w := (wM r dB)) (M := N) (suf := wH q dA qo dO (M_186, o)) (wM_ad r dB) (va_runV (As := [.int y_189]) (rest := []) ⟨hx, hb, hml, hown, hta⟩ (mtXm_kill l dC dI r dB H.size y_189 N _ hw) (cwV 1 hta (giV wt_748 wt_749 wt_750 wt_7 wt_751) rfl rfl rfl (by decide +kernel) ⟨(Nat.le_of_ble_eq_true rfl), (Nat.le_of_ble_eq_true rfl)⟩) ⟨pW_blind, va_recv hKm (wP_l hP) (ci := 5) (q0 := 0) rfl (wM_0 r dB N), pW_of hKm (wP_l hP) (wD_l hD)⟩ rfl rfl hl.1 rfl (lv_room (Nat.le_of_ble_eq_true rfl)) dXl_law_467 ⟨h_192, h_193⟩) hP hD hS hA (fun M_191 H locs hw hP hD hS => ?_)
                  refine lv_aload_n hx hb dXl_law_470 rfl (lv_at hl 3 rfl) ?_
                  refine cp_i (w := (wM r dB)) (M := M_191) (suf := wH q dA qo dO (M_186, o)) (wM_ad r dB) (va_runV (As := []) (rest := []) ⟨hx, hb, hml, hown, hta⟩ (mtXm_thrown l dC dI r dB H.size M_191 _ hw) (cwV 0 hta (giV wt_650 wt_651 wt_652 wt_7 wt_653) rfl rfl rfl (by decide +kernel) ⟨(Nat.le_of_ble_eq_true rfl), (Nat.le_of_ble_eq_true rfl)⟩) ⟨pW_blind, va_recv hKm (wP_l hP) (ci := 5) (q0 := 0) rfl (wM_0 r dB M_191), pW_of hKm (wP_l hP) (wD_l hD)⟩ rfl rfl hl.1 rfl (lv_room (Nat.le_of_ble_eq_true rfl)) dXl_law_471 ⟨h_192, h_193⟩) hP hD hS hA (fun r_194 M_195 H locs hw hP hD hS => ?_)
                  refine lv_iload hx hb dXl_law_474 (lv_at hl 0 rfl) ?_
                  refine lv_icmp_eq (tgt := 481) hx hb dXl_law_476 (by decide) (fun c_196 => ?_) (fun c_196 => ?_)
                  · have hw := hw.1 c_196
                    refine lv_goto (tgt := 897) hx hb dXl_law_481 (by decide) ?_
                    obtain ⟨x4_197, ex4_197⟩ : ∃ y : Int32, y = x4 + 4 := ⟨_, rfl⟩
                    have hw := hw x4_197 ex4_197
                    refine lv_iinc (v := x4_197) (lv' := [(4, .int x4_197), (5, .int r_183), (0, .ref b), (1, .ref (q 0)), (2, .ref (r 0)), (3, .ref qo)]) hx hb dXl_law_897 hl (k := 5) rfl (by rw [ex4_197]; rfl) (by decide) rfl (fun ls hl => ?_)
                    refine lv_goto (tgt := 23) hx hb dXl_law_900 (by decide) ?_
                    exact ih x4_197 (kc + 1) (ks + 6) M_186 M_195 o _ _ _ hw hP hD hS (lv_sub hl [2, 3, 4, 5, 0] rfl)
                  · have hw := hw.2 c_196
                    refine lv_iconst (v := 0) hx hb dXl_law_479 (by decide) ?_
                    exact False.elim hw
                · have hw := hw.2 c_179
                  rcases Classical.em (y_6 = 6) with c_198 | c_198
                  · have hw := hw.1 c_198
                    refine lv_tableIn (tgt := 484) (off := 445) hx hb dXl_law_39 (by rw [c_198]; decide) (by rw [c_198]; decide) (by rw [c_198]; decide) (by decide) ?_
                    refine lv_aload_n hx hb dXl_law_484 rfl (lv_at hl 1 rfl) ?_
                    refine lv_aload_n hx hb dXl_law_485 rfl (lv_at hl 0 rfl) ?_
                    refine lv_iload hx hb dXl_law_486 (lv_at hl 4 rfl) ?_
                    refine lv_iconst (v := 1) hx hb dXl_law_488 (by decide) ?_
                    refine lv_iadd hx hb dXl_law_489 ?_
                    refine lv_topi (fun y_199 ey_199 => ?_)
                    have hw := hw y_199 ey_199
                    obtain ⟨h_200, hw⟩ := hw
                    refine va_sld hx hb hX hbl hbA hS h_200 dXl_law_490 ?_
                    refine lv_topi (fun y_201 ey_201 => ?_)
                    have hw := hw y_201 ey_201
                    obtain ⟨h_203, h_204, hw⟩ := hw
                    refine cr_i (w := (wX q dA)) (M := M) (pre := wM r dB N) (suf := [(qo, .inl (dO, 1, .inr (.inl o)))]) (wX_ad q dA) (vx_runSW (As := [.ref (q 0), .int y_201]) (rest := []) ⟨hx, hb, hml, hown, hta⟩ (mtXl_restart l hl9 dC dI q dA H.size y_201 M _ hw) (vx_cwSW 2 hta (giS wt_475 wt_476 wt_0 wt_477) rfl rfl rfl (by decide +kernel) ⟨(Nat.le_of_ble_eq_true rfl), (Nat.le_of_ble_eq_true rfl)⟩) ⟨pWx_blind sL_ok, pWx_of (pre := wM r dB N) (suf := [(qo, .inl (dO, 1, .inr (.inl o)))]) sL_ok hKx (wP_l (wP_r hP)) hD hS hA hZ hsp⟩ rfl rfl hl.1 rfl (lv_room (Nat.le_of_ble_eq_true rfl)) dXl_law_491 ⟨h_203, h_204⟩) hP hD hS hA (fun r_202 M_205 H locs hw hP hD hS => ?_)
                    have hP : va_P (dC, dI) vwCl (wM r dB N ++ wH q dA qo dO (M_205, o)) H := hP
                    have hD : va_D (fun q : Nat => s.heap.size ≤ q) (wM r dB N ++ wH q dA qo dO (M_205, o)) := hD
                    refine lv_istore (lv' := [(5, .int r_202), (0, .ref b), (1, .ref (q 0)), (2, .ref (r 0)), (3, .ref qo), (4, .int x4)]) hx hb dXl_law_494 hl (by decide) rfl (fun ls hl => ?_)
                    refine lv_aload_n hx hb dXl_law_496 rfl (lv_at hl 3 rfl) ?_
                    refine lv_aload_n hx hb dXl_law_497 rfl (lv_at hl 1 rfl) ?_
                    refine lv_iload hx hb dXl_law_498 (lv_at hl 5 rfl) ?_
                    refine lv_iconst (v := 1) hx hb dXl_law_500 (by decide) ?_
                    refine lv_iadd hx hb dXl_law_501 ?_
                    refine lv_topi (fun y_206 ey_206 => ?_)
                    have hw := hw y_206 ey_206
                    obtain ⟨h_207, hw⟩ := hw
                    refine va_sld hx hb hX hbl hbA hS h_207 dXl_law_502 ?_
                    refine lv_topi (fun y_208 ey_208 => ?_)
                    have hw := hw y_208 ey_208
                    obtain ⟨h_211, h_212, hw⟩ := hw
                    refine cp_v (w := (wM r dB)) (M := N) (suf := wH q dA qo dO (M_205, o)) (wM_ad r dB) (va_runV (As := [.int y_208]) (rest := []) ⟨hx, hb, hml, hown, hta⟩ (mtXm_restart l dC dI r dB H.size y_208 N _ hw) (cwV 1 hta (giV wt_756 wt_757 wt_758 wt_7 wt_759) rfl rfl rfl (by decide +kernel) ⟨(Nat.le_of_ble_eq_true rfl), (Nat.le_of_ble_eq_true rfl)⟩) ⟨pW_blind, va_recv hKm (wP_l hP) (ci := 5) (q0 := 0) rfl (wM_0 r dB N), pW_of hKm (wP_l hP) (wD_l hD)⟩ rfl rfl hl.1 rfl (lv_room (Nat.le_of_ble_eq_true rfl)) dXl_law_503 ⟨h_211, h_212⟩) hP hD hS hA (fun M_210 H locs hw hP hD hS => ?_)
                    refine lv_aload_n hx hb dXl_law_506 rfl (lv_at hl 3 rfl) ?_
                    refine cp_i (w := (wM r dB)) (M := M_210) (suf := wH q dA qo dO (M_205, o)) (wM_ad r dB) (va_runV (As := []) (rest := []) ⟨hx, hb, hml, hown, hta⟩ (mtXm_thrown l dC dI r dB H.size M_210 _ hw) (cwV 0 hta (giV wt_650 wt_651 wt_652 wt_7 wt_653) rfl rfl rfl (by decide +kernel) ⟨(Nat.le_of_ble_eq_true rfl), (Nat.le_of_ble_eq_true rfl)⟩) ⟨pW_blind, va_recv hKm (wP_l hP) (ci := 5) (q0 := 0) rfl (wM_0 r dB M_210), pW_of hKm (wP_l hP) (wD_l hD)⟩ rfl rfl hl.1 rfl (lv_room (Nat.le_of_ble_eq_true rfl)) dXl_law_507 ⟨h_211, h_212⟩) hP hD hS hA (fun r_213 M_214 H locs hw hP hD hS => ?_)
                    refine lv_iload hx hb dXl_law_510 (lv_at hl 0 rfl) ?_
                    refine lv_icmp_eq (tgt := 517) hx hb dXl_law_512 (by decide) (fun c_215 => ?_) (fun c_215 => ?_)
                    · have hw := hw.1 c_215
                      refine lv_goto (tgt := 897) hx hb dXl_law_517 (by decide) ?_
                      obtain ⟨x4_216, ex4_216⟩ : ∃ y : Int32, y = x4 + 4 := ⟨_, rfl⟩
                      have hw := hw x4_216 ex4_216
                      refine lv_iinc (v := x4_216) (lv' := [(4, .int x4_216), (5, .int r_202), (0, .ref b), (1, .ref (q 0)), (2, .ref (r 0)), (3, .ref qo)]) hx hb dXl_law_897 hl (k := 5) rfl (by rw [ex4_216]; rfl) (by decide) rfl (fun ls hl => ?_)
                      refine lv_goto (tgt := 23) hx hb dXl_law_900 (by decide) ?_
                      exact ih x4_216 (kc + 1) (ks + 6) M_205 M_214 o _ _ _ hw hP hD hS (lv_sub hl [2, 3, 4, 5, 0] rfl)
                    · have hw := hw.2 c_215
                      refine lv_iconst (v := 0) hx hb dXl_law_515 (by decide) ?_
                      exact False.elim hw
                  · have hw := hw.2 c_198
                    rcases Classical.em (y_6 = 7) with c_217 | c_217
                    · have hw := hw.1 c_217
                      refine lv_tableIn (tgt := 520) (off := 481) hx hb dXl_law_39 (by rw [c_217]; decide) (by rw [c_217]; decide) (by rw [c_217]; decide) (by decide) ?_
                      refine lv_aload_n hx hb dXl_law_520 rfl (lv_at hl 1 rfl) ?_
                      refine lv_aload_n hx hb dXl_law_521 rfl (lv_at hl 0 rfl) ?_
                      refine lv_iload hx hb dXl_law_522 (lv_at hl 4 rfl) ?_
                      refine lv_iconst (v := 1) hx hb dXl_law_524 (by decide) ?_
                      refine lv_iadd hx hb dXl_law_525 ?_
                      refine lv_topi (fun y_218 ey_218 => ?_)
                      have hw := hw y_218 ey_218
                      obtain ⟨h_219, hw⟩ := hw
                      refine va_sld hx hb hX hbl hbA hS h_219 dXl_law_526 ?_
                      refine lv_topi (fun y_220 ey_220 => ?_)
                      have hw := hw y_220 ey_220
                      obtain ⟨h_222, h_223, hw⟩ := hw
                      refine cr_i (w := (wX q dA)) (M := M) (pre := wM r dB N) (suf := [(qo, .inl (dO, 1, .inr (.inl o)))]) (wX_ad q dA) (vx_runSW (As := [.ref (q 0), .int y_220]) (rest := []) ⟨hx, hb, hml, hown, hta⟩ (mtXl_lease l hl9 dC dI q dA H.size y_220 M _ hw) (vx_cwSW 2 hta (giS wt_483 wt_484 wt_0 wt_485) rfl rfl rfl (by decide +kernel) ⟨(Nat.le_of_ble_eq_true rfl), (Nat.le_of_ble_eq_true rfl)⟩) ⟨pWx_blind sL_ok, pWx_of (pre := wM r dB N) (suf := [(qo, .inl (dO, 1, .inr (.inl o)))]) sL_ok hKx (wP_l (wP_r hP)) hD hS hA hZ hsp⟩ rfl rfl hl.1 rfl (lv_room (Nat.le_of_ble_eq_true rfl)) dXl_law_527 ⟨h_222, h_223⟩) hP hD hS hA (fun r_221 M_224 H locs hw hP hD hS => ?_)
                      have hP : va_P (dC, dI) vwCl (wM r dB N ++ wH q dA qo dO (M_224, o)) H := hP
                      have hD : va_D (fun q : Nat => s.heap.size ≤ q) (wM r dB N ++ wH q dA qo dO (M_224, o)) := hD
                      refine lv_istore (lv' := [(5, .int r_221), (0, .ref b), (1, .ref (q 0)), (2, .ref (r 0)), (3, .ref qo), (4, .int x4)]) hx hb dXl_law_530 hl (by decide) rfl (fun ls hl => ?_)
                      refine lv_aload_n hx hb dXl_law_532 rfl (lv_at hl 3 rfl) ?_
                      refine lv_aload_n hx hb dXl_law_533 rfl (lv_at hl 1 rfl) ?_
                      refine lv_iload hx hb dXl_law_534 (lv_at hl 5 rfl) ?_
                      refine lv_iconst (v := 1) hx hb dXl_law_536 (by decide) ?_
                      refine lv_iadd hx hb dXl_law_537 ?_
                      refine lv_topi (fun y_225 ey_225 => ?_)
                      have hw := hw y_225 ey_225
                      obtain ⟨h_226, hw⟩ := hw
                      refine va_sld hx hb hX hbl hbA hS h_226 dXl_law_538 ?_
                      refine lv_topi (fun y_227 ey_227 => ?_)
                      have hw := hw y_227 ey_227
                      obtain ⟨h_230, h_231, hw⟩ := hw
                      refine cp_v (w := (wM r dB)) (M := N) (suf := wH q dA qo dO (M_224, o)) (wM_ad r dB) (va_runV (As := [.int y_227]) (rest := []) ⟨hx, hb, hml, hown, hta⟩ (mtXm_lease l dC dI r dB H.size y_227 N _ hw) (cwV 1 hta (giV wt_760 wt_761 wt_762 wt_7 wt_763) rfl rfl rfl (by decide +kernel) ⟨(Nat.le_of_ble_eq_true rfl), (Nat.le_of_ble_eq_true rfl)⟩) ⟨pW_blind, va_recv hKm (wP_l hP) (ci := 5) (q0 := 0) rfl (wM_0 r dB N), pW_of hKm (wP_l hP) (wD_l hD)⟩ rfl rfl hl.1 rfl (lv_room (Nat.le_of_ble_eq_true rfl)) dXl_law_539 ⟨h_230, h_231⟩) hP hD hS hA (fun M_229 H locs hw hP hD hS => ?_)
                      refine lv_aload_n hx hb dXl_law_542 rfl (lv_at hl 3 rfl) ?_
                      refine cp_i (w := (wM r dB)) (M := M_229) (suf := wH q dA qo dO (M_224, o)) (wM_ad r dB) (va_runV (As := []) (rest := []) ⟨hx, hb, hml, hown, hta⟩ (mtXm_thrown l dC dI r dB H.size M_229 _ hw) (cwV 0 hta (giV wt_650 wt_651 wt_652 wt_7 wt_653) rfl rfl rfl (by decide +kernel) ⟨(Nat.le_of_ble_eq_true rfl), (Nat.le_of_ble_eq_true rfl)⟩) ⟨pW_blind, va_recv hKm (wP_l hP) (ci := 5) (q0 := 0) rfl (wM_0 r dB M_229), pW_of hKm (wP_l hP) (wD_l hD)⟩ rfl rfl hl.1 rfl (lv_room (Nat.le_of_ble_eq_true rfl)) dXl_law_543 ⟨h_230, h_231⟩) hP hD hS hA (fun r_232 M_233 H locs hw hP hD hS => ?_)
                      refine lv_iload hx hb dXl_law_546 (lv_at hl 0 rfl) ?_
                      refine lv_icmp_eq (tgt := 553) hx hb dXl_law_548 (by decide) (fun c_234 => ?_) (fun c_234 => ?_)
                      · have hw := hw.1 c_234
                        refine lv_goto (tgt := 897) hx hb dXl_law_553 (by decide) ?_
                        obtain ⟨x4_235, ex4_235⟩ : ∃ y : Int32, y = x4 + 4 := ⟨_, rfl⟩
                        have hw := hw x4_235 ex4_235
                        refine lv_iinc (v := x4_235) (lv' := [(4, .int x4_235), (5, .int r_221), (0, .ref b), (1, .ref (q 0)), (2, .ref (r 0)), (3, .ref qo)]) hx hb dXl_law_897 hl (k := 5) rfl (by rw [ex4_235]; rfl) (by decide) rfl (fun ls hl => ?_)
                        refine lv_goto (tgt := 23) hx hb dXl_law_900 (by decide) ?_
                        exact ih x4_235 (kc + 1) (ks + 6) M_224 M_233 o _ _ _ hw hP hD hS (lv_sub hl [2, 3, 4, 5, 0] rfl)
                      · have hw := hw.2 c_234
                        refine lv_iconst (v := 0) hx hb dXl_law_551 (by decide) ?_
                        exact False.elim hw
                    · have hw := hw.2 c_217
                      rcases Classical.em (y_6 = 8) with c_236 | c_236
                      · have hw := hw.1 c_236
                        refine lv_tableIn (tgt := 556) (off := 517) hx hb dXl_law_39 (by rw [c_236]; decide) (by rw [c_236]; decide) (by rw [c_236]; decide) (by decide) ?_
                        refine lv_aload_n hx hb dXl_law_556 rfl (lv_at hl 1 rfl) ?_
                        obtain ⟨h_239, h_240, hw⟩ := hw
                        refine cr_i (w := (wX q dA)) (M := M) (pre := wM r dB N) (suf := [(qo, .inl (dO, 1, .inr (.inl o)))]) (wX_ad q dA) (va_runV (As := []) (rest := []) ⟨hx, hb, hml, hown, hta⟩ (mtXs_close l dC dI q dA H.size M _ hw) (cwV 0 hta (giV wt_161 wt_162 wt_163 wt_1 wt_164) rfl rfl rfl (by decide +kernel) ⟨(Nat.le_of_ble_eq_true rfl), (Nat.le_of_ble_eq_true rfl)⟩) ⟨pW_blind, va_recv hKx (wP_l (wP_r hP)) (ci := 0) (q0 := 0) rfl (wX_0 q dA M), pW_of hKx (wP_l (wP_r hP)) (wD_l (wD_r hD))⟩ rfl rfl hl.1 rfl (lv_room (Nat.le_of_ble_eq_true rfl)) dXl_law_557 ⟨h_239, h_240⟩) hP hD hS hA (fun r_237 M_238 H locs hw hP hD hS => ?_)
                        have hP : va_P (dC, dI) vwCl (wM r dB N ++ wH q dA qo dO (M_238, o)) H := hP
                        have hD : va_D (fun q : Nat => s.heap.size ≤ q) (wM r dB N ++ wH q dA qo dO (M_238, o)) := hD
                        refine lv_aload_n hx hb dXl_law_560 rfl (lv_at hl 2 rfl) ?_
                        refine cp_i (w := (wM r dB)) (M := N) (suf := wH q dA qo dO (M_238, o)) (wM_ad r dB) (va_runV (As := []) (rest := [.int r_237]) ⟨hx, hb, hml, hown, hta⟩ (mtXm_close l dC dI r dB H.size N _ hw) (cwV 0 hta (giV wt_764 wt_765 wt_766 wt_7 wt_767) rfl rfl rfl (by decide +kernel) ⟨(Nat.le_of_ble_eq_true rfl), (Nat.le_of_ble_eq_true rfl)⟩) ⟨pW_blind, va_recv hKm (wP_l hP) (ci := 5) (q0 := 0) rfl (wM_0 r dB N), pW_of hKm (wP_l hP) (wD_l hD)⟩ rfl rfl hl.1 rfl (lv_room (Nat.le_of_ble_eq_true rfl)) dXl_law_561 ⟨h_239, h_240⟩) hP hD hS hA (fun r_241 M_242 H locs hw hP hD hS => ?_)
                        refine lv_icmp_eq (tgt := 897) hx hb dXl_law_564 (by decide) (fun c_243 => ?_) (fun c_243 => ?_)
                        · have hw := hw.1 c_243
                          obtain ⟨x4_244, ex4_244⟩ : ∃ y : Int32, y = x4 + 4 := ⟨_, rfl⟩
                          have hw := hw x4_244 ex4_244
                          refine lv_iinc (v := x4_244) (lv' := [(4, .int x4_244), (0, .ref b), (1, .ref (q 0)), (2, .ref (r 0)), (3, .ref qo)]) hx hb dXl_law_897 hl (k := 4) rfl (by rw [ex4_244]; rfl) (by decide) rfl (fun ls hl => ?_)
                          refine lv_goto (tgt := 23) hx hb dXl_law_900 (by decide) ?_
                          exact ih x4_244 kc ks M_238 M_242 o _ _ _ hw hP hD hS (lv_sub hl [1, 2, 3, 4, 0] rfl)
                        · have hw := hw.2 c_243
                          refine lv_iconst (v := 0) hx hb dXl_law_567 (by decide) ?_
                          exact False.elim hw
                      · have hw := hw.2 c_236
                        rcases Classical.em (y_6 = 9) with c_245 | c_245
                        · have hw := hw.1 c_245
                          refine lv_tableIn (tgt := 569) (off := 530) hx hb dXl_law_39 (by rw [c_245]; decide) (by rw [c_245]; decide) (by rw [c_245]; decide) (by decide) ?_
                          refine lv_aload_n hx hb dXl_law_569 rfl (lv_at hl 1 rfl) ?_
                          refine lv_aload_n hx hb dXl_law_570 rfl (lv_at hl 0 rfl) ?_
                          refine lv_iload hx hb dXl_law_571 (lv_at hl 4 rfl) ?_
                          refine lv_iconst (v := 1) hx hb dXl_law_573 (by decide) ?_
                          refine lv_iadd hx hb dXl_law_574 ?_
                          refine lv_topi (fun y_246 ey_246 => ?_)
                          have hw := hw y_246 ey_246
                          obtain ⟨h_247, hw⟩ := hw
                          refine va_sld hx hb hX hbl hbA hS h_247 dXl_law_575 ?_
                          refine lv_topi (fun y_248 ey_248 => ?_)
                          have hw := hw y_248 ey_248
                          refine lv_aload_n hx hb dXl_law_576 rfl (lv_at hl 0 rfl) ?_
                          refine lv_iload hx hb dXl_law_577 (lv_at hl 4 rfl) ?_
                          refine lv_iconst (v := 2) hx hb dXl_law_579 (by decide) ?_
                          refine lv_iadd hx hb dXl_law_580 ?_
                          refine lv_topi (fun y_249 ey_249 => ?_)
                          have hw := hw y_249 ey_249
                          obtain ⟨h_250, hw⟩ := hw
                          refine va_sld hx hb hX hbl hbA hS h_250 dXl_law_581 ?_
                          refine lv_topi (fun y_251 ey_251 => ?_)
                          have hw := hw y_251 ey_251
                          refine lv_aload_n hx hb dXl_law_582 rfl (lv_at hl 3 rfl) ?_
                          obtain ⟨h_253, h_254, hw⟩ := hw
                          refine cq_i (w := (wH q dA qo dO)) (M := (M, o)) (pre := wM r dB N) (wH_ad q dA qo dO) (vx_runSW (As := [.ref (q 0), .int y_248, .int y_251, .ref qo]) (rest := []) ⟨hx, hb, hml, hown, hta⟩ (mtXl_unit l hl9 dC dI q dA qo dO H.size y_248 y_251 M o _ hw) (vx_cwSW 4 hta (giS wt_491 wt_492 wt_0 wt_493) rfl rfl rfl (by decide +kernel) ⟨(Nat.le_of_ble_eq_true rfl), (Nat.le_of_ble_eq_true rfl)⟩) ⟨pWx_blind sL_ok, pWx_of (pre := wM r dB N) (suf := []) sL_ok hKh (wP_r hP) (by rw [List.append_nil]; exact hD) hS hA hZ hsp⟩ rfl rfl hl.1 rfl (lv_room (Nat.le_of_ble_eq_true rfl)) dXl_law_583 ⟨h_253, h_254⟩) hP hD hS hA (fun r_252 u_255 H locs hw hP hD hS => ?_)
                          have hP : va_P (dC, dI) vwCl (wM r dB N ++ wH q dA qo dO (u_255.1, u_255.2)) H := hP
                          have hD : va_D (fun q : Nat => s.heap.size ≤ q) (wM r dB N ++ wH q dA qo dO (u_255.1, u_255.2)) := hD
                          refine lv_istore (lv' := [(5, .int r_252), (0, .ref b), (1, .ref (q 0)), (2, .ref (r 0)), (3, .ref qo), (4, .int x4)]) hx hb dXl_law_586 hl (by decide) rfl (fun ls hl => ?_)
                          refine lv_aload_n hx hb dXl_law_588 rfl (lv_at hl 3 rfl) ?_
                          refine lv_aload_n hx hb dXl_law_589 rfl (lv_at hl 1 rfl) ?_
                          refine lv_iload hx hb dXl_law_590 (lv_at hl 5 rfl) ?_
                          refine lv_iconst (v := 1) hx hb dXl_law_592 (by decide) ?_
                          refine lv_iadd hx hb dXl_law_593 ?_
                          refine lv_topi (fun y_258 ey_258 => ?_)
                          have hw := hw y_258 ey_258
                          obtain ⟨h_259, hw⟩ := hw
                          refine va_sld hx hb hX hbl hbA hS h_259 dXl_law_594 ?_
                          refine lv_topi (fun y_260 ey_260 => ?_)
                          have hw := hw y_260 ey_260
                          refine lv_aload_n hx hb dXl_law_595 rfl (lv_at hl 1 rfl) ?_
                          refine lv_iload hx hb dXl_law_596 (lv_at hl 5 rfl) ?_
                          refine lv_iconst (v := 2) hx hb dXl_law_598 (by decide) ?_
                          refine lv_iadd hx hb dXl_law_599 ?_
                          refine lv_topi (fun y_261 ey_261 => ?_)
                          have hw := hw y_261 ey_261
                          obtain ⟨h_262, hw⟩ := hw
                          refine va_sld hx hb hX hbl hbA hS h_262 dXl_law_600 ?_
                          refine lv_topi (fun y_263 ey_263 => ?_)
                          have hw := hw y_263 ey_263
                          obtain ⟨h_266, h_267, hw⟩ := hw
                          refine cp_i (w := (wM r dB)) (M := N) (suf := wH q dA qo dO (u_255.1, u_255.2)) (wM_ad r dB) (va_runV (As := [.int y_260, .int y_263]) (rest := []) ⟨hx, hb, hml, hown, hta⟩ (mtXm_unit l dC dI r dB H.size y_260 y_263 N _ hw) (cwV 2 hta (giV wt_768 wt_769 wt_770 wt_7 wt_771) rfl rfl rfl (by decide +kernel) ⟨(Nat.le_of_ble_eq_true rfl), (Nat.le_of_ble_eq_true rfl)⟩) ⟨pW_blind, va_recv hKm (wP_l hP) (ci := 5) (q0 := 0) rfl (wM_0 r dB N), pW_of hKm (wP_l hP) (wD_l hD)⟩ rfl rfl hl.1 rfl (lv_room (Nat.le_of_ble_eq_true rfl)) dXl_law_601 ⟨h_266, h_267⟩) hP hD hS hA (fun r_264 M_265 H locs hw hP hD hS => ?_)
                          refine lv_istore (lv' := [(6, .int r_264), (5, .int r_252), (0, .ref b), (1, .ref (q 0)), (2, .ref (r 0)), (3, .ref qo), (4, .int x4)]) hx hb dXl_law_604 hl (by decide) rfl (fun ls hl => ?_)
                          refine lv_aload_n hx hb dXl_law_606 rfl (lv_at hl 4 rfl) ?_
                          refine cp_i (w := (wM r dB)) (M := M_265) (suf := wH q dA qo dO (u_255.1, u_255.2)) (wM_ad r dB) (va_runV (As := []) (rest := []) ⟨hx, hb, hml, hown, hta⟩ (mtXm_thrown l dC dI r dB H.size M_265 _ hw) (cwV 0 hta (giV wt_650 wt_651 wt_652 wt_7 wt_653) rfl rfl rfl (by decide +kernel) ⟨(Nat.le_of_ble_eq_true rfl), (Nat.le_of_ble_eq_true rfl)⟩) ⟨pW_blind, va_recv hKm (wP_l hP) (ci := 5) (q0 := 0) rfl (wM_0 r dB M_265), pW_of hKm (wP_l hP) (wD_l hD)⟩ rfl rfl hl.1 rfl (lv_room (Nat.le_of_ble_eq_true rfl)) dXl_law_607 ⟨h_266, h_267⟩) hP hD hS hA (fun r_268 M_269 H locs hw hP hD hS => ?_)
                          refine lv_iload hx hb dXl_law_610 (lv_at hl 1 rfl) ?_
                          refine lv_icmp_eq (tgt := 617) hx hb dXl_law_612 (by decide) (fun c_270 => ?_) (fun c_270 => ?_)
                          · have hw := hw.1 c_270
                            refine lv_iload hx hb dXl_law_617 (lv_at hl 1 rfl) ?_
                            refine lv_if_ne (tgt := 634) hx hb dXl_law_619 (by decide) (fun c_271 => ?_) (fun c_271 => ?_)
                            · have hw := hw.2 c_271
                              refine lv_goto (tgt := 897) hx hb dXl_law_634 (by decide) ?_
                              obtain ⟨x4_272, ex4_272⟩ : ∃ y : Int32, y = x4 + 4 := ⟨_, rfl⟩
                              have hw := hw x4_272 ex4_272
                              refine lv_iinc (v := x4_272) (lv' := [(4, .int x4_272), (6, .int r_264), (5, .int r_252), (0, .ref b), (1, .ref (q 0)), (2, .ref (r 0)), (3, .ref qo)]) hx hb dXl_law_897 hl (k := 6) rfl (by rw [ex4_272]; rfl) (by decide) rfl (fun ls hl => ?_)
                              refine lv_goto (tgt := 23) hx hb dXl_law_900 (by decide) ?_
                              exact ih x4_272 (kc + 1) (ks + 6) u_255.1 M_269 u_255.2 _ _ _ hw hP hD hS (lv_sub hl [3, 4, 5, 6, 0] rfl)
                            · have hw := hw.1 c_271
                              refine lv_aload_n hx hb dXl_law_622 rfl (lv_at hl 5 rfl) ?_
                              refine lv_iconst (v := 0) hx hb dXl_law_623 (by decide) ?_
                              refine va_lald hx hb hK hP 51 45 rfl rfl (by unfold vp_in; decide) dXl_law_624 ?_
                              refine lv_topl (x := u_255.2 0) (fun y_274 ey_274 => ?_)
                              have hw := hw y_274 ey_274
                              refine lv_iload hx hb dXl_law_625 (lv_at hl 0 rfl) ?_
                              refine lv_i2l hx hb dXl_law_627 rfl ?_
                              refine lv_topl (fun y_275 ey_275 => ?_)
                              have hw := hw y_275 ey_275
                              refine W.lcmp hx hb dXl_law_628 ?_
                              refine lv_topi (fun y_276 ey_276 => ?_)
                              have hw := hw y_276 ey_276
                              refine lv_if_eq (tgt := 634) hx hb dXl_law_629 (by decide) (fun c_277 => ?_) (fun c_277 => ?_)
                              · have hw := hw.1 c_277
                                refine lv_goto (tgt := 897) hx hb dXl_law_634 (by decide) ?_
                                obtain ⟨x4_278, ex4_278⟩ : ∃ y : Int32, y = x4 + 4 := ⟨_, rfl⟩
                                have hw := hw x4_278 ex4_278
                                refine lv_iinc (v := x4_278) (lv' := [(4, .int x4_278), (6, .int r_264), (5, .int r_252), (0, .ref b), (1, .ref (q 0)), (2, .ref (r 0)), (3, .ref qo)]) hx hb dXl_law_897 hl (k := 6) rfl (by rw [ex4_278]; rfl) (by decide) rfl (fun ls hl => ?_)
                                refine lv_goto (tgt := 23) hx hb dXl_law_900 (by decide) ?_
                                exact ih x4_278 (kc + 1) (ks + 6) u_255.1 M_269 u_255.2 _ _ _ hw hP hD hS (lv_sub hl [3, 4, 5, 6, 0] rfl)
                              · have hw := hw.2 c_277
                                refine lv_iconst (v := 0) hx hb dXl_law_632 (by decide) ?_
                                exact False.elim hw
                          · have hw := hw.2 c_270
                            refine lv_iconst (v := 0) hx hb dXl_law_615 (by decide) ?_
                            exact False.elim hw
                        · have hw := hw.2 c_245
                          rcases Classical.em (y_6 = 10) with c_279 | c_279
                          · have hw := hw.1 c_279
                            refine lv_tableIn (tgt := 637) (off := 598) hx hb dXl_law_39 (by rw [c_279]; decide) (by rw [c_279]; decide) (by rw [c_279]; decide) (by decide) ?_
                            refine lv_aload_n hx hb dXl_law_637 rfl (lv_at hl 1 rfl) ?_
                            refine lv_aload_n hx hb dXl_law_638 rfl (lv_at hl 0 rfl) ?_
                            refine lv_iload hx hb dXl_law_639 (lv_at hl 4 rfl) ?_
                            refine lv_iconst (v := 1) hx hb dXl_law_641 (by decide) ?_
                            refine lv_iadd hx hb dXl_law_642 ?_
                            refine lv_topi (fun y_280 ey_280 => ?_)
                            have hw := hw y_280 ey_280
                            obtain ⟨h_281, hw⟩ := hw
                            refine va_sld hx hb hX hbl hbA hS h_281 dXl_law_643 ?_
                            refine lv_topi (fun y_282 ey_282 => ?_)
                            have hw := hw y_282 ey_282
                            refine lv_aload_n hx hb dXl_law_644 rfl (lv_at hl 0 rfl) ?_
                            refine lv_iload hx hb dXl_law_645 (lv_at hl 4 rfl) ?_
                            refine lv_iconst (v := 2) hx hb dXl_law_647 (by decide) ?_
                            refine lv_iadd hx hb dXl_law_648 ?_
                            refine lv_topi (fun y_283 ey_283 => ?_)
                            have hw := hw y_283 ey_283
                            obtain ⟨h_284, hw⟩ := hw
                            refine va_sld hx hb hX hbl hbA hS h_284 dXl_law_649 ?_
                            refine lv_topi (fun y_285 ey_285 => ?_)
                            have hw := hw y_285 ey_285
                            refine lv_aload_n hx hb dXl_law_650 rfl (lv_at hl 3 rfl) ?_
                            obtain ⟨h_287, h_288, hw⟩ := hw
                            refine cq_i (w := (wH q dA qo dO)) (M := (M, o)) (pre := wM r dB N) (wH_ad q dA qo dO) (vx_runSW (As := [.ref (q 0), .int y_282, .int y_285, .ref qo]) (rest := []) ⟨hx, hb, hml, hown, hta⟩ (mtXl_callAt l hl9 dC dI q dA qo dO H.size y_282 y_285 M o _ hw) (vx_cwSW 4 hta (giS wt_500 wt_501 wt_0 wt_502) rfl rfl rfl (by decide +kernel) ⟨(Nat.le_of_ble_eq_true rfl), (Nat.le_of_ble_eq_true rfl)⟩) ⟨pWx_blind sL_ok, pWx_of (pre := wM r dB N) (suf := []) sL_ok hKh (wP_r hP) (by rw [List.append_nil]; exact hD) hS hA hZ hsp⟩ rfl rfl hl.1 rfl (lv_room (Nat.le_of_ble_eq_true rfl)) dXl_law_651 ⟨h_287, h_288⟩) hP hD hS hA (fun r_286 u_289 H locs hw hP hD hS => ?_)
                            have hP : va_P (dC, dI) vwCl (wM r dB N ++ wH q dA qo dO (u_289.1, u_289.2)) H := hP
                            have hD : va_D (fun q : Nat => s.heap.size ≤ q) (wM r dB N ++ wH q dA qo dO (u_289.1, u_289.2)) := hD
                            refine lv_istore (lv' := [(5, .int r_286), (0, .ref b), (1, .ref (q 0)), (2, .ref (r 0)), (3, .ref qo), (4, .int x4)]) hx hb dXl_law_654 hl (by decide) rfl (fun ls hl => ?_)
                            refine lv_aload_n hx hb dXl_law_656 rfl (lv_at hl 3 rfl) ?_
                            refine lv_aload_n hx hb dXl_law_657 rfl (lv_at hl 1 rfl) ?_
                            refine lv_iload hx hb dXl_law_658 (lv_at hl 5 rfl) ?_
                            refine lv_iconst (v := 1) hx hb dXl_law_660 (by decide) ?_
                            refine lv_iadd hx hb dXl_law_661 ?_
                            refine lv_topi (fun y_292 ey_292 => ?_)
                            have hw := hw y_292 ey_292
                            obtain ⟨h_293, hw⟩ := hw
                            refine va_sld hx hb hX hbl hbA hS h_293 dXl_law_662 ?_
                            refine lv_topi (fun y_294 ey_294 => ?_)
                            have hw := hw y_294 ey_294
                            refine lv_aload_n hx hb dXl_law_663 rfl (lv_at hl 1 rfl) ?_
                            refine lv_iload hx hb dXl_law_664 (lv_at hl 5 rfl) ?_
                            refine lv_iconst (v := 2) hx hb dXl_law_666 (by decide) ?_
                            refine lv_iadd hx hb dXl_law_667 ?_
                            refine lv_topi (fun y_295 ey_295 => ?_)
                            have hw := hw y_295 ey_295
                            obtain ⟨h_296, hw⟩ := hw
                            refine va_sld hx hb hX hbl hbA hS h_296 dXl_law_668 ?_
                            refine lv_topi (fun y_297 ey_297 => ?_)
                            have hw := hw y_297 ey_297
                            obtain ⟨h_300, h_301, hw⟩ := hw
                            refine cp_i (w := (wM r dB)) (M := N) (suf := wH q dA qo dO (u_289.1, u_289.2)) (wM_ad r dB) (va_runV (As := [.int y_294, .int y_297]) (rest := []) ⟨hx, hb, hml, hown, hta⟩ (mtXm_callAt l dC dI r dB H.size y_294 y_297 N _ hw) (cwV 2 hta (giV wt_772 wt_773 wt_774 wt_7 wt_775) rfl rfl rfl (by decide +kernel) ⟨(Nat.le_of_ble_eq_true rfl), (Nat.le_of_ble_eq_true rfl)⟩) ⟨pW_blind, va_recv hKm (wP_l hP) (ci := 5) (q0 := 0) rfl (wM_0 r dB N), pW_of hKm (wP_l hP) (wD_l hD)⟩ rfl rfl hl.1 rfl (lv_room (Nat.le_of_ble_eq_true rfl)) dXl_law_669 ⟨h_300, h_301⟩) hP hD hS hA (fun r_298 M_299 H locs hw hP hD hS => ?_)
                            refine lv_istore (lv' := [(6, .int r_298), (5, .int r_286), (0, .ref b), (1, .ref (q 0)), (2, .ref (r 0)), (3, .ref qo), (4, .int x4)]) hx hb dXl_law_672 hl (by decide) rfl (fun ls hl => ?_)
                            refine lv_aload_n hx hb dXl_law_674 rfl (lv_at hl 4 rfl) ?_
                            refine cp_i (w := (wM r dB)) (M := M_299) (suf := wH q dA qo dO (u_289.1, u_289.2)) (wM_ad r dB) (va_runV (As := []) (rest := []) ⟨hx, hb, hml, hown, hta⟩ (mtXm_thrown l dC dI r dB H.size M_299 _ hw) (cwV 0 hta (giV wt_650 wt_651 wt_652 wt_7 wt_653) rfl rfl rfl (by decide +kernel) ⟨(Nat.le_of_ble_eq_true rfl), (Nat.le_of_ble_eq_true rfl)⟩) ⟨pW_blind, va_recv hKm (wP_l hP) (ci := 5) (q0 := 0) rfl (wM_0 r dB M_299), pW_of hKm (wP_l hP) (wD_l hD)⟩ rfl rfl hl.1 rfl (lv_room (Nat.le_of_ble_eq_true rfl)) dXl_law_675 ⟨h_300, h_301⟩) hP hD hS hA (fun r_302 M_303 H locs hw hP hD hS => ?_)
                            refine lv_iload hx hb dXl_law_678 (lv_at hl 1 rfl) ?_
                            refine lv_icmp_eq (tgt := 685) hx hb dXl_law_680 (by decide) (fun c_304 => ?_) (fun c_304 => ?_)
                            · have hw := hw.1 c_304
                              refine lv_iload hx hb dXl_law_685 (lv_at hl 1 rfl) ?_
                              refine lv_if_ne (tgt := 702) hx hb dXl_law_687 (by decide) (fun c_305 => ?_) (fun c_305 => ?_)
                              · have hw := hw.2 c_305
                                refine lv_goto (tgt := 897) hx hb dXl_law_702 (by decide) ?_
                                obtain ⟨x4_306, ex4_306⟩ : ∃ y : Int32, y = x4 + 4 := ⟨_, rfl⟩
                                have hw := hw x4_306 ex4_306
                                refine lv_iinc (v := x4_306) (lv' := [(4, .int x4_306), (6, .int r_298), (5, .int r_286), (0, .ref b), (1, .ref (q 0)), (2, .ref (r 0)), (3, .ref qo)]) hx hb dXl_law_897 hl (k := 6) rfl (by rw [ex4_306]; rfl) (by decide) rfl (fun ls hl => ?_)
                                refine lv_goto (tgt := 23) hx hb dXl_law_900 (by decide) ?_
                                exact ih x4_306 (kc + 1) (ks + 6) u_289.1 M_303 u_289.2 _ _ _ hw hP hD hS (lv_sub hl [3, 4, 5, 6, 0] rfl)
                              · have hw := hw.1 c_305
                                refine lv_aload_n hx hb dXl_law_690 rfl (lv_at hl 5 rfl) ?_
                                refine lv_iconst (v := 0) hx hb dXl_law_691 (by decide) ?_
                                refine va_lald hx hb hK hP 51 45 rfl rfl (by unfold vp_in; decide) dXl_law_692 ?_
                                refine lv_topl (x := u_289.2 0) (fun y_308 ey_308 => ?_)
                                have hw := hw y_308 ey_308
                                refine lv_iload hx hb dXl_law_693 (lv_at hl 0 rfl) ?_
                                refine lv_i2l hx hb dXl_law_695 rfl ?_
                                refine lv_topl (fun y_309 ey_309 => ?_)
                                have hw := hw y_309 ey_309
                                refine W.lcmp hx hb dXl_law_696 ?_
                                refine lv_topi (fun y_310 ey_310 => ?_)
                                have hw := hw y_310 ey_310
                                refine lv_if_eq (tgt := 702) hx hb dXl_law_697 (by decide) (fun c_311 => ?_) (fun c_311 => ?_)
                                · have hw := hw.1 c_311
                                  refine lv_goto (tgt := 897) hx hb dXl_law_702 (by decide) ?_
                                  obtain ⟨x4_312, ex4_312⟩ : ∃ y : Int32, y = x4 + 4 := ⟨_, rfl⟩
                                  have hw := hw x4_312 ex4_312
                                  refine lv_iinc (v := x4_312) (lv' := [(4, .int x4_312), (6, .int r_298), (5, .int r_286), (0, .ref b), (1, .ref (q 0)), (2, .ref (r 0)), (3, .ref qo)]) hx hb dXl_law_897 hl (k := 6) rfl (by rw [ex4_312]; rfl) (by decide) rfl (fun ls hl => ?_)
                                  refine lv_goto (tgt := 23) hx hb dXl_law_900 (by decide) ?_
                                  exact ih x4_312 (kc + 1) (ks + 6) u_289.1 M_303 u_289.2 _ _ _ hw hP hD hS (lv_sub hl [3, 4, 5, 6, 0] rfl)
                                · have hw := hw.2 c_311
                                  refine lv_iconst (v := 0) hx hb dXl_law_700 (by decide) ?_
                                  exact False.elim hw
                            · have hw := hw.2 c_304
                              refine lv_iconst (v := 0) hx hb dXl_law_683 (by decide) ?_
                              exact False.elim hw
                          · have hw := hw.2 c_279
                            rcases Classical.em (y_6 = 11) with c_313 | c_313
                            · have hw := hw.1 c_313
                              refine lv_tableIn (tgt := 705) (off := 666) hx hb dXl_law_39 (by rw [c_313]; decide) (by rw [c_313]; decide) (by rw [c_313]; decide) (by decide) ?_
                              refine lv_aload_n hx hb dXl_law_705 rfl (lv_at hl 1 rfl) ?_
                              refine lv_aload_n hx hb dXl_law_706 rfl (lv_at hl 0 rfl) ?_
                              refine lv_iload hx hb dXl_law_707 (lv_at hl 4 rfl) ?_
                              refine lv_iconst (v := 1) hx hb dXl_law_709 (by decide) ?_
                              refine lv_iadd hx hb dXl_law_710 ?_
                              refine lv_topi (fun y_314 ey_314 => ?_)
                              have hw := hw y_314 ey_314
                              obtain ⟨h_315, hw⟩ := hw
                              refine va_sld hx hb hX hbl hbA hS h_315 dXl_law_711 ?_
                              refine lv_topi (fun y_316 ey_316 => ?_)
                              have hw := hw y_316 ey_316
                              refine lv_aload_n hx hb dXl_law_712 rfl (lv_at hl 0 rfl) ?_
                              refine lv_iload hx hb dXl_law_713 (lv_at hl 4 rfl) ?_
                              refine lv_iconst (v := 2) hx hb dXl_law_715 (by decide) ?_
                              refine lv_iadd hx hb dXl_law_716 ?_
                              refine lv_topi (fun y_317 ey_317 => ?_)
                              have hw := hw y_317 ey_317
                              obtain ⟨h_318, hw⟩ := hw
                              refine va_sld hx hb hX hbl hbA hS h_318 dXl_law_717 ?_
                              refine lv_topi (fun y_319 ey_319 => ?_)
                              have hw := hw y_319 ey_319
                              refine lv_aload_n hx hb dXl_law_718 rfl (lv_at hl 3 rfl) ?_
                              obtain ⟨h_321, h_322, hw⟩ := hw
                              refine cq_i (w := (wH q dA qo dO)) (M := (M, o)) (pre := wM r dB N) (wH_ad q dA qo dO) (vx_runSW (As := [.ref (q 0), .int y_316, .int y_319, .ref qo]) (rest := []) ⟨hx, hb, hml, hown, hta⟩ (mtXl_thread l hl9 dC dI q dA qo dO H.size y_316 y_319 M o _ hw) (vx_cwSW 4 hta (giS wt_509 wt_510 wt_0 wt_511) rfl rfl rfl (by decide +kernel) ⟨(Nat.le_of_ble_eq_true rfl), (Nat.le_of_ble_eq_true rfl)⟩) ⟨pWx_blind sL_ok, pWx_of (pre := wM r dB N) (suf := []) sL_ok hKh (wP_r hP) (by rw [List.append_nil]; exact hD) hS hA hZ hsp⟩ rfl rfl hl.1 rfl (lv_room (Nat.le_of_ble_eq_true rfl)) dXl_law_719 ⟨h_321, h_322⟩) hP hD hS hA (fun r_320 u_323 H locs hw hP hD hS => ?_)
                              have hP : va_P (dC, dI) vwCl (wM r dB N ++ wH q dA qo dO (u_323.1, u_323.2)) H := hP
                              have hD : va_D (fun q : Nat => s.heap.size ≤ q) (wM r dB N ++ wH q dA qo dO (u_323.1, u_323.2)) := hD
                              refine lv_istore (lv' := [(5, .int r_320), (0, .ref b), (1, .ref (q 0)), (2, .ref (r 0)), (3, .ref qo), (4, .int x4)]) hx hb dXl_law_722 hl (by decide) rfl (fun ls hl => ?_)
                              refine lv_aload_n hx hb dXl_law_724 rfl (lv_at hl 3 rfl) ?_
                              refine lv_aload_n hx hb dXl_law_725 rfl (lv_at hl 1 rfl) ?_
                              refine lv_iload hx hb dXl_law_726 (lv_at hl 5 rfl) ?_
                              refine lv_iconst (v := 1) hx hb dXl_law_728 (by decide) ?_
                              refine lv_iadd hx hb dXl_law_729 ?_
                              refine lv_topi (fun y_326 ey_326 => ?_)
                              have hw := hw y_326 ey_326
                              obtain ⟨h_327, hw⟩ := hw
                              refine va_sld hx hb hX hbl hbA hS h_327 dXl_law_730 ?_
                              refine lv_topi (fun y_328 ey_328 => ?_)
                              have hw := hw y_328 ey_328
                              refine lv_aload_n hx hb dXl_law_731 rfl (lv_at hl 1 rfl) ?_
                              refine lv_iload hx hb dXl_law_732 (lv_at hl 5 rfl) ?_
                              refine lv_iconst (v := 2) hx hb dXl_law_734 (by decide) ?_
                              refine lv_iadd hx hb dXl_law_735 ?_
                              refine lv_topi (fun y_329 ey_329 => ?_)
                              have hw := hw y_329 ey_329
                              obtain ⟨h_330, hw⟩ := hw
                              refine va_sld hx hb hX hbl hbA hS h_330 dXl_law_736 ?_
                              refine lv_topi (fun y_331 ey_331 => ?_)
                              have hw := hw y_331 ey_331
                              obtain ⟨h_334, h_335, hw⟩ := hw
                              refine cp_i (w := (wM r dB)) (M := N) (suf := wH q dA qo dO (u_323.1, u_323.2)) (wM_ad r dB) (va_runV (As := [.int y_328, .int y_331]) (rest := []) ⟨hx, hb, hml, hown, hta⟩ (mtXm_thread l dC dI r dB H.size y_328 y_331 N _ hw) (cwV 2 hta (giV wt_776 wt_777 wt_778 wt_7 wt_779) rfl rfl rfl (by decide +kernel) ⟨(Nat.le_of_ble_eq_true rfl), (Nat.le_of_ble_eq_true rfl)⟩) ⟨pW_blind, va_recv hKm (wP_l hP) (ci := 5) (q0 := 0) rfl (wM_0 r dB N), pW_of hKm (wP_l hP) (wD_l hD)⟩ rfl rfl hl.1 rfl (lv_room (Nat.le_of_ble_eq_true rfl)) dXl_law_737 ⟨h_334, h_335⟩) hP hD hS hA (fun r_332 M_333 H locs hw hP hD hS => ?_)
                              refine lv_istore (lv' := [(6, .int r_332), (5, .int r_320), (0, .ref b), (1, .ref (q 0)), (2, .ref (r 0)), (3, .ref qo), (4, .int x4)]) hx hb dXl_law_740 hl (by decide) rfl (fun ls hl => ?_)
                              refine lv_aload_n hx hb dXl_law_742 rfl (lv_at hl 4 rfl) ?_
                              refine cp_i (w := (wM r dB)) (M := M_333) (suf := wH q dA qo dO (u_323.1, u_323.2)) (wM_ad r dB) (va_runV (As := []) (rest := []) ⟨hx, hb, hml, hown, hta⟩ (mtXm_thrown l dC dI r dB H.size M_333 _ hw) (cwV 0 hta (giV wt_650 wt_651 wt_652 wt_7 wt_653) rfl rfl rfl (by decide +kernel) ⟨(Nat.le_of_ble_eq_true rfl), (Nat.le_of_ble_eq_true rfl)⟩) ⟨pW_blind, va_recv hKm (wP_l hP) (ci := 5) (q0 := 0) rfl (wM_0 r dB M_333), pW_of hKm (wP_l hP) (wD_l hD)⟩ rfl rfl hl.1 rfl (lv_room (Nat.le_of_ble_eq_true rfl)) dXl_law_743 ⟨h_334, h_335⟩) hP hD hS hA (fun r_336 M_337 H locs hw hP hD hS => ?_)
                              refine lv_iload hx hb dXl_law_746 (lv_at hl 1 rfl) ?_
                              refine lv_icmp_eq (tgt := 753) hx hb dXl_law_748 (by decide) (fun c_338 => ?_) (fun c_338 => ?_)
                              · have hw := hw.1 c_338
                                refine lv_iload hx hb dXl_law_753 (lv_at hl 1 rfl) ?_
                                refine lv_if_ne (tgt := 770) hx hb dXl_law_755 (by decide) (fun c_339 => ?_) (fun c_339 => ?_)
                                · have hw := hw.2 c_339
                                  refine lv_goto (tgt := 897) hx hb dXl_law_770 (by decide) ?_
                                  obtain ⟨x4_340, ex4_340⟩ : ∃ y : Int32, y = x4 + 4 := ⟨_, rfl⟩
                                  have hw := hw x4_340 ex4_340
                                  refine lv_iinc (v := x4_340) (lv' := [(4, .int x4_340), (6, .int r_332), (5, .int r_320), (0, .ref b), (1, .ref (q 0)), (2, .ref (r 0)), (3, .ref qo)]) hx hb dXl_law_897 hl (k := 6) rfl (by rw [ex4_340]; rfl) (by decide) rfl (fun ls hl => ?_)
                                  refine lv_goto (tgt := 23) hx hb dXl_law_900 (by decide) ?_
                                  exact ih x4_340 (kc + 1) (ks + 6) u_323.1 M_337 u_323.2 _ _ _ hw hP hD hS (lv_sub hl [3, 4, 5, 6, 0] rfl)
                                · have hw := hw.1 c_339
                                  refine lv_aload_n hx hb dXl_law_758 rfl (lv_at hl 5 rfl) ?_
                                  refine lv_iconst (v := 0) hx hb dXl_law_759 (by decide) ?_
                                  refine va_lald hx hb hK hP 51 45 rfl rfl (by unfold vp_in; decide) dXl_law_760 ?_
                                  refine lv_topl (x := u_323.2 0) (fun y_342 ey_342 => ?_)
                                  have hw := hw y_342 ey_342
                                  refine lv_iload hx hb dXl_law_761 (lv_at hl 0 rfl) ?_
                                  refine lv_i2l hx hb dXl_law_763 rfl ?_
                                  refine lv_topl (fun y_343 ey_343 => ?_)
                                  have hw := hw y_343 ey_343
                                  refine W.lcmp hx hb dXl_law_764 ?_
                                  refine lv_topi (fun y_344 ey_344 => ?_)
                                  have hw := hw y_344 ey_344
                                  refine lv_if_eq (tgt := 770) hx hb dXl_law_765 (by decide) (fun c_345 => ?_) (fun c_345 => ?_)
                                  · have hw := hw.1 c_345
                                    refine lv_goto (tgt := 897) hx hb dXl_law_770 (by decide) ?_
                                    obtain ⟨x4_346, ex4_346⟩ : ∃ y : Int32, y = x4 + 4 := ⟨_, rfl⟩
                                    have hw := hw x4_346 ex4_346
                                    refine lv_iinc (v := x4_346) (lv' := [(4, .int x4_346), (6, .int r_332), (5, .int r_320), (0, .ref b), (1, .ref (q 0)), (2, .ref (r 0)), (3, .ref qo)]) hx hb dXl_law_897 hl (k := 6) rfl (by rw [ex4_346]; rfl) (by decide) rfl (fun ls hl => ?_)
                                    refine lv_goto (tgt := 23) hx hb dXl_law_900 (by decide) ?_
                                    exact ih x4_346 (kc + 1) (ks + 6) u_323.1 M_337 u_323.2 _ _ _ hw hP hD hS (lv_sub hl [3, 4, 5, 6, 0] rfl)
                                  · have hw := hw.2 c_345
                                    refine lv_iconst (v := 0) hx hb dXl_law_768 (by decide) ?_
                                    exact False.elim hw
                              · have hw := hw.2 c_338
                                refine lv_iconst (v := 0) hx hb dXl_law_751 (by decide) ?_
                                exact False.elim hw
                            · have hw := hw.2 c_313
                              rcases Classical.em (y_6 = 12) with c_347 | c_347
                              · have hw := hw.1 c_347
                                refine lv_tableIn (tgt := 773) (off := 734) hx hb dXl_law_39 (by rw [c_347]; decide) (by rw [c_347]; decide) (by rw [c_347]; decide) (by decide) ?_
                                refine lv_aload_n hx hb dXl_law_773 rfl (lv_at hl 1 rfl) ?_
                                refine lv_aload_n hx hb dXl_law_774 rfl (lv_at hl 0 rfl) ?_
                                refine lv_iload hx hb dXl_law_775 (lv_at hl 4 rfl) ?_
                                refine lv_iconst (v := 1) hx hb dXl_law_777 (by decide) ?_
                                refine lv_iadd hx hb dXl_law_778 ?_
                                refine lv_topi (fun y_348 ey_348 => ?_)
                                have hw := hw y_348 ey_348
                                obtain ⟨h_349, hw⟩ := hw
                                refine va_sld hx hb hX hbl hbA hS h_349 dXl_law_779 ?_
                                refine lv_topi (fun y_350 ey_350 => ?_)
                                have hw := hw y_350 ey_350
                                refine lv_aload_n hx hb dXl_law_780 rfl (lv_at hl 0 rfl) ?_
                                refine lv_iload hx hb dXl_law_781 (lv_at hl 4 rfl) ?_
                                refine lv_iconst (v := 2) hx hb dXl_law_783 (by decide) ?_
                                refine lv_iadd hx hb dXl_law_784 ?_
                                refine lv_topi (fun y_351 ey_351 => ?_)
                                have hw := hw y_351 ey_351
                                obtain ⟨h_352, hw⟩ := hw
                                refine va_sld hx hb hX hbl hbA hS h_352 dXl_law_785 ?_
                                refine lv_topi (fun y_353 ey_353 => ?_)
                                have hw := hw y_353 ey_353
                                refine lv_aload_n hx hb dXl_law_786 rfl (lv_at hl 3 rfl) ?_
                                obtain ⟨h_355, h_356, hw⟩ := hw
                                refine cq_i (w := (wH q dA qo dO)) (M := (M, o)) (pre := wM r dB N) (wH_ad q dA qo dO) (vx_runSW (As := [.ref (q 0), .int y_350, .int y_353, .ref qo]) (rest := []) ⟨hx, hb, hml, hown, hta⟩ (mtXl_row l hl9 dC dI q dA qo dO H.size y_350 y_353 M o _ hw) (vx_cwSW 4 hta (giS wt_521 wt_522 wt_0 wt_523) rfl rfl rfl (by decide +kernel) ⟨(Nat.le_of_ble_eq_true rfl), (Nat.le_of_ble_eq_true rfl)⟩) ⟨pWx_blind sL_ok, pWx_of (pre := wM r dB N) (suf := []) sL_ok hKh (wP_r hP) (by rw [List.append_nil]; exact hD) hS hA hZ hsp⟩ rfl rfl hl.1 rfl (lv_room (Nat.le_of_ble_eq_true rfl)) dXl_law_787 ⟨h_355, h_356⟩) hP hD hS hA (fun r_354 u_357 H locs hw hP hD hS => ?_)
                                have hP : va_P (dC, dI) vwCl (wM r dB N ++ wH q dA qo dO (u_357.1, u_357.2)) H := hP
                                have hD : va_D (fun q : Nat => s.heap.size ≤ q) (wM r dB N ++ wH q dA qo dO (u_357.1, u_357.2)) := hD
                                refine lv_istore (lv' := [(5, .int r_354), (0, .ref b), (1, .ref (q 0)), (2, .ref (r 0)), (3, .ref qo), (4, .int x4)]) hx hb dXl_law_790 hl (by decide) rfl (fun ls hl => ?_)
                                refine lv_aload_n hx hb dXl_law_792 rfl (lv_at hl 3 rfl) ?_
                                refine lv_aload_n hx hb dXl_law_793 rfl (lv_at hl 1 rfl) ?_
                                refine lv_iload hx hb dXl_law_794 (lv_at hl 5 rfl) ?_
                                refine lv_iconst (v := 1) hx hb dXl_law_796 (by decide) ?_
                                refine lv_iadd hx hb dXl_law_797 ?_
                                refine lv_topi (fun y_360 ey_360 => ?_)
                                have hw := hw y_360 ey_360
                                obtain ⟨h_361, hw⟩ := hw
                                refine va_sld hx hb hX hbl hbA hS h_361 dXl_law_798 ?_
                                refine lv_topi (fun y_362 ey_362 => ?_)
                                have hw := hw y_362 ey_362
                                refine lv_aload_n hx hb dXl_law_799 rfl (lv_at hl 1 rfl) ?_
                                refine lv_iload hx hb dXl_law_800 (lv_at hl 5 rfl) ?_
                                refine lv_iconst (v := 2) hx hb dXl_law_802 (by decide) ?_
                                refine lv_iadd hx hb dXl_law_803 ?_
                                refine lv_topi (fun y_363 ey_363 => ?_)
                                have hw := hw y_363 ey_363
                                obtain ⟨h_364, hw⟩ := hw
                                refine va_sld hx hb hX hbl hbA hS h_364 dXl_law_804 ?_
                                refine lv_topi (fun y_365 ey_365 => ?_)
                                have hw := hw y_365 ey_365
                                obtain ⟨h_368, h_369, hw⟩ := hw
                                refine cp_i (w := (wM r dB)) (M := N) (suf := wH q dA qo dO (u_357.1, u_357.2)) (wM_ad r dB) (va_runV (As := [.int y_362, .int y_365]) (rest := []) ⟨hx, hb, hml, hown, hta⟩ (mtXm_row l dC dI r dB H.size y_362 y_365 N _ hw) (cwV 2 hta (giV wt_780 wt_781 wt_782 wt_7 wt_783) rfl rfl rfl (by decide +kernel) ⟨(Nat.le_of_ble_eq_true rfl), (Nat.le_of_ble_eq_true rfl)⟩) ⟨pW_blind, va_recv hKm (wP_l hP) (ci := 5) (q0 := 0) rfl (wM_0 r dB N), pW_of hKm (wP_l hP) (wD_l hD)⟩ rfl rfl hl.1 rfl (lv_room (Nat.le_of_ble_eq_true rfl)) dXl_law_805 ⟨h_368, h_369⟩) hP hD hS hA (fun r_366 M_367 H locs hw hP hD hS => ?_)
                                refine lv_istore (lv' := [(6, .int r_366), (5, .int r_354), (0, .ref b), (1, .ref (q 0)), (2, .ref (r 0)), (3, .ref qo), (4, .int x4)]) hx hb dXl_law_808 hl (by decide) rfl (fun ls hl => ?_)
                                refine lv_aload_n hx hb dXl_law_810 rfl (lv_at hl 4 rfl) ?_
                                refine cp_i (w := (wM r dB)) (M := M_367) (suf := wH q dA qo dO (u_357.1, u_357.2)) (wM_ad r dB) (va_runV (As := []) (rest := []) ⟨hx, hb, hml, hown, hta⟩ (mtXm_thrown l dC dI r dB H.size M_367 _ hw) (cwV 0 hta (giV wt_650 wt_651 wt_652 wt_7 wt_653) rfl rfl rfl (by decide +kernel) ⟨(Nat.le_of_ble_eq_true rfl), (Nat.le_of_ble_eq_true rfl)⟩) ⟨pW_blind, va_recv hKm (wP_l hP) (ci := 5) (q0 := 0) rfl (wM_0 r dB M_367), pW_of hKm (wP_l hP) (wD_l hD)⟩ rfl rfl hl.1 rfl (lv_room (Nat.le_of_ble_eq_true rfl)) dXl_law_811 ⟨h_368, h_369⟩) hP hD hS hA (fun r_370 M_371 H locs hw hP hD hS => ?_)
                                refine lv_iload hx hb dXl_law_814 (lv_at hl 1 rfl) ?_
                                refine lv_icmp_eq (tgt := 821) hx hb dXl_law_816 (by decide) (fun c_372 => ?_) (fun c_372 => ?_)
                                · have hw := hw.1 c_372
                                  refine lv_iload hx hb dXl_law_821 (lv_at hl 1 rfl) ?_
                                  refine lv_if_ne (tgt := 838) hx hb dXl_law_823 (by decide) (fun c_373 => ?_) (fun c_373 => ?_)
                                  · have hw := hw.2 c_373
                                    refine lv_goto (tgt := 897) hx hb dXl_law_838 (by decide) ?_
                                    obtain ⟨x4_374, ex4_374⟩ : ∃ y : Int32, y = x4 + 4 := ⟨_, rfl⟩
                                    have hw := hw x4_374 ex4_374
                                    refine lv_iinc (v := x4_374) (lv' := [(4, .int x4_374), (6, .int r_366), (5, .int r_354), (0, .ref b), (1, .ref (q 0)), (2, .ref (r 0)), (3, .ref qo)]) hx hb dXl_law_897 hl (k := 6) rfl (by rw [ex4_374]; rfl) (by decide) rfl (fun ls hl => ?_)
                                    refine lv_goto (tgt := 23) hx hb dXl_law_900 (by decide) ?_
                                    exact ih x4_374 (kc + 1) (ks + 6) u_357.1 M_371 u_357.2 _ _ _ hw hP hD hS (lv_sub hl [3, 4, 5, 6, 0] rfl)
                                  · have hw := hw.1 c_373
                                    refine lv_aload_n hx hb dXl_law_826 rfl (lv_at hl 5 rfl) ?_
                                    refine lv_iconst (v := 0) hx hb dXl_law_827 (by decide) ?_
                                    refine va_lald hx hb hK hP 51 45 rfl rfl (by unfold vp_in; decide) dXl_law_828 ?_
                                    refine lv_topl (x := u_357.2 0) (fun y_376 ey_376 => ?_)
                                    have hw := hw y_376 ey_376
                                    refine lv_iload hx hb dXl_law_829 (lv_at hl 0 rfl) ?_
                                    refine lv_i2l hx hb dXl_law_831 rfl ?_
                                    refine lv_topl (fun y_377 ey_377 => ?_)
                                    have hw := hw y_377 ey_377
                                    refine W.lcmp hx hb dXl_law_832 ?_
                                    refine lv_topi (fun y_378 ey_378 => ?_)
                                    have hw := hw y_378 ey_378
                                    refine lv_if_eq (tgt := 838) hx hb dXl_law_833 (by decide) (fun c_379 => ?_) (fun c_379 => ?_)
                                    · have hw := hw.1 c_379
                                      refine lv_goto (tgt := 897) hx hb dXl_law_838 (by decide) ?_
                                      obtain ⟨x4_380, ex4_380⟩ : ∃ y : Int32, y = x4 + 4 := ⟨_, rfl⟩
                                      have hw := hw x4_380 ex4_380
                                      refine lv_iinc (v := x4_380) (lv' := [(4, .int x4_380), (6, .int r_366), (5, .int r_354), (0, .ref b), (1, .ref (q 0)), (2, .ref (r 0)), (3, .ref qo)]) hx hb dXl_law_897 hl (k := 6) rfl (by rw [ex4_380]; rfl) (by decide) rfl (fun ls hl => ?_)
                                      refine lv_goto (tgt := 23) hx hb dXl_law_900 (by decide) ?_
                                      exact ih x4_380 (kc + 1) (ks + 6) u_357.1 M_371 u_357.2 _ _ _ hw hP hD hS (lv_sub hl [3, 4, 5, 6, 0] rfl)
                                    · have hw := hw.2 c_379
                                      refine lv_iconst (v := 0) hx hb dXl_law_836 (by decide) ?_
                                      exact False.elim hw
                                · have hw := hw.2 c_372
                                  refine lv_iconst (v := 0) hx hb dXl_law_819 (by decide) ?_
                                  exact False.elim hw
                              · have hw := hw.2 c_347
                                rcases Classical.em (y_6 = 13) with c_381 | c_381
                                · have hw := hw.1 c_381
                                  refine lv_tableIn (tgt := 841) (off := 802) hx hb dXl_law_39 (by rw [c_381]; decide) (by rw [c_381]; decide) (by rw [c_381]; decide) (by decide) ?_
                                  refine lv_aload_n hx hb dXl_law_841 rfl (lv_at hl 1 rfl) ?_
                                  refine lv_aload_n hx hb dXl_law_842 rfl (lv_at hl 0 rfl) ?_
                                  refine lv_iload hx hb dXl_law_843 (lv_at hl 4 rfl) ?_
                                  refine lv_iconst (v := 1) hx hb dXl_law_845 (by decide) ?_
                                  refine lv_iadd hx hb dXl_law_846 ?_
                                  refine lv_topi (fun y_382 ey_382 => ?_)
                                  have hw := hw y_382 ey_382
                                  obtain ⟨h_383, hw⟩ := hw
                                  refine va_sld hx hb hX hbl hbA hS h_383 dXl_law_847 ?_
                                  refine lv_topi (fun y_384 ey_384 => ?_)
                                  have hw := hw y_384 ey_384
                                  refine lv_aload_n hx hb dXl_law_848 rfl (lv_at hl 3 rfl) ?_
                                  obtain ⟨h_386, h_387, hw⟩ := hw
                                  refine cq_i (w := (wH q dA qo dO)) (M := (M, o)) (pre := wM r dB N) (wH_ad q dA qo dO) (vx_runSW (As := [.ref (q 0), .int y_384, .ref qo]) (rest := []) ⟨hx, hb, hml, hown, hta⟩ (mtXl_count l hl9 dC dI q dA qo dO H.size y_384 M o _ hw) (vx_cwSW 3 hta (giS wt_534 wt_535 wt_0 wt_536) rfl rfl rfl (by decide +kernel) ⟨(Nat.le_of_ble_eq_true rfl), (Nat.le_of_ble_eq_true rfl)⟩) ⟨pWx_blind sL_ok, pWx_of (pre := wM r dB N) (suf := []) sL_ok hKh (wP_r hP) (by rw [List.append_nil]; exact hD) hS hA hZ hsp⟩ rfl rfl hl.1 rfl (lv_room (Nat.le_of_ble_eq_true rfl)) dXl_law_849 ⟨h_386, h_387⟩) hP hD hS hA (fun r_385 u_388 H locs hw hP hD hS => ?_)
                                  have hP : va_P (dC, dI) vwCl (wM r dB N ++ wH q dA qo dO (u_388.1, u_388.2)) H := hP
                                  have hD : va_D (fun q : Nat => s.heap.size ≤ q) (wM r dB N ++ wH q dA qo dO (u_388.1, u_388.2)) := hD
                                  refine lv_istore (lv' := [(5, .int r_385), (0, .ref b), (1, .ref (q 0)), (2, .ref (r 0)), (3, .ref qo), (4, .int x4)]) hx hb dXl_law_852 hl (by decide) rfl (fun ls hl => ?_)
                                  refine lv_aload_n hx hb dXl_law_854 rfl (lv_at hl 3 rfl) ?_
                                  refine lv_aload_n hx hb dXl_law_855 rfl (lv_at hl 1 rfl) ?_
                                  refine lv_iload hx hb dXl_law_856 (lv_at hl 5 rfl) ?_
                                  refine lv_iconst (v := 1) hx hb dXl_law_858 (by decide) ?_
                                  refine lv_iadd hx hb dXl_law_859 ?_
                                  refine lv_topi (fun y_391 ey_391 => ?_)
                                  have hw := hw y_391 ey_391
                                  obtain ⟨h_392, hw⟩ := hw
                                  refine va_sld hx hb hX hbl hbA hS h_392 dXl_law_860 ?_
                                  refine lv_topi (fun y_393 ey_393 => ?_)
                                  have hw := hw y_393 ey_393
                                  obtain ⟨h_396, h_397, hw⟩ := hw
                                  refine cp_i (w := (wM r dB)) (M := N) (suf := wH q dA qo dO (u_388.1, u_388.2)) (wM_ad r dB) (va_runV (As := [.int y_393]) (rest := []) ⟨hx, hb, hml, hown, hta⟩ (mtXm_count l dC dI r dB H.size y_393 N _ hw) (cwV 1 hta (giV wt_784 wt_785 wt_786 wt_7 wt_787) rfl rfl rfl (by decide +kernel) ⟨(Nat.le_of_ble_eq_true rfl), (Nat.le_of_ble_eq_true rfl)⟩) ⟨pW_blind, va_recv hKm (wP_l hP) (ci := 5) (q0 := 0) rfl (wM_0 r dB N), pW_of hKm (wP_l hP) (wD_l hD)⟩ rfl rfl hl.1 rfl (lv_room (Nat.le_of_ble_eq_true rfl)) dXl_law_861 ⟨h_396, h_397⟩) hP hD hS hA (fun r_394 M_395 H locs hw hP hD hS => ?_)
                                  refine lv_istore (lv' := [(6, .int r_394), (5, .int r_385), (0, .ref b), (1, .ref (q 0)), (2, .ref (r 0)), (3, .ref qo), (4, .int x4)]) hx hb dXl_law_864 hl (by decide) rfl (fun ls hl => ?_)
                                  refine lv_aload_n hx hb dXl_law_866 rfl (lv_at hl 4 rfl) ?_
                                  refine cp_i (w := (wM r dB)) (M := M_395) (suf := wH q dA qo dO (u_388.1, u_388.2)) (wM_ad r dB) (va_runV (As := []) (rest := []) ⟨hx, hb, hml, hown, hta⟩ (mtXm_thrown l dC dI r dB H.size M_395 _ hw) (cwV 0 hta (giV wt_650 wt_651 wt_652 wt_7 wt_653) rfl rfl rfl (by decide +kernel) ⟨(Nat.le_of_ble_eq_true rfl), (Nat.le_of_ble_eq_true rfl)⟩) ⟨pW_blind, va_recv hKm (wP_l hP) (ci := 5) (q0 := 0) rfl (wM_0 r dB M_395), pW_of hKm (wP_l hP) (wD_l hD)⟩ rfl rfl hl.1 rfl (lv_room (Nat.le_of_ble_eq_true rfl)) dXl_law_867 ⟨h_396, h_397⟩) hP hD hS hA (fun r_398 M_399 H locs hw hP hD hS => ?_)
                                  refine lv_iload hx hb dXl_law_870 (lv_at hl 1 rfl) ?_
                                  refine lv_icmp_eq (tgt := 877) hx hb dXl_law_872 (by decide) (fun c_400 => ?_) (fun c_400 => ?_)
                                  · have hw := hw.1 c_400
                                    refine lv_iload hx hb dXl_law_877 (lv_at hl 1 rfl) ?_
                                    refine lv_if_ne (tgt := 894) hx hb dXl_law_879 (by decide) (fun c_401 => ?_) (fun c_401 => ?_)
                                    · have hw := hw.2 c_401
                                      refine lv_goto (tgt := 897) hx hb dXl_law_894 (by decide) ?_
                                      obtain ⟨x4_402, ex4_402⟩ : ∃ y : Int32, y = x4 + 4 := ⟨_, rfl⟩
                                      have hw := hw x4_402 ex4_402
                                      refine lv_iinc (v := x4_402) (lv' := [(4, .int x4_402), (6, .int r_394), (5, .int r_385), (0, .ref b), (1, .ref (q 0)), (2, .ref (r 0)), (3, .ref qo)]) hx hb dXl_law_897 hl (k := 6) rfl (by rw [ex4_402]; rfl) (by decide) rfl (fun ls hl => ?_)
                                      refine lv_goto (tgt := 23) hx hb dXl_law_900 (by decide) ?_
                                      exact ih x4_402 (kc + 1) (ks + 6) u_388.1 M_399 u_388.2 _ _ _ hw hP hD hS (lv_sub hl [3, 4, 5, 6, 0] rfl)
                                    · have hw := hw.1 c_401
                                      refine lv_aload_n hx hb dXl_law_882 rfl (lv_at hl 5 rfl) ?_
                                      refine lv_iconst (v := 0) hx hb dXl_law_883 (by decide) ?_
                                      refine va_lald hx hb hK hP 51 45 rfl rfl (by unfold vp_in; decide) dXl_law_884 ?_
                                      refine lv_topl (x := u_388.2 0) (fun y_404 ey_404 => ?_)
                                      have hw := hw y_404 ey_404
                                      refine lv_iload hx hb dXl_law_885 (lv_at hl 0 rfl) ?_
                                      refine lv_i2l hx hb dXl_law_887 rfl ?_
                                      refine lv_topl (fun y_405 ey_405 => ?_)
                                      have hw := hw y_405 ey_405
                                      refine W.lcmp hx hb dXl_law_888 ?_
                                      refine lv_topi (fun y_406 ey_406 => ?_)
                                      have hw := hw y_406 ey_406
                                      refine lv_if_eq (tgt := 894) hx hb dXl_law_889 (by decide) (fun c_407 => ?_) (fun c_407 => ?_)
                                      · have hw := hw.1 c_407
                                        refine lv_goto (tgt := 897) hx hb dXl_law_894 (by decide) ?_
                                        obtain ⟨x4_408, ex4_408⟩ : ∃ y : Int32, y = x4 + 4 := ⟨_, rfl⟩
                                        have hw := hw x4_408 ex4_408
                                        refine lv_iinc (v := x4_408) (lv' := [(4, .int x4_408), (6, .int r_394), (5, .int r_385), (0, .ref b), (1, .ref (q 0)), (2, .ref (r 0)), (3, .ref qo)]) hx hb dXl_law_897 hl (k := 6) rfl (by rw [ex4_408]; rfl) (by decide) rfl (fun ls hl => ?_)
                                        refine lv_goto (tgt := 23) hx hb dXl_law_900 (by decide) ?_
                                        exact ih x4_408 (kc + 1) (ks + 6) u_388.1 M_399 u_388.2 _ _ _ hw hP hD hS (lv_sub hl [3, 4, 5, 6, 0] rfl)
                                      · have hw := hw.2 c_407
                                        refine lv_iconst (v := 0) hx hb dXl_law_892 (by decide) ?_
                                        exact False.elim hw
                                  · have hw := hw.2 c_400
                                    refine lv_iconst (v := 0) hx hb dXl_law_875 (by decide) ?_
                                    exact False.elim hw
                                · have hw := hw.2 c_381
                                  refine lv_tableOut (tgt := 897) hx hb dXl_law_39 (by have n0 := lv_neT c_8 (show (0 : Int32).toInt = 0 by decide); have n1 := lv_neT c_48 (show (1 : Int32).toInt = 1 by decide); have n2 := lv_neT c_73 (show (2 : Int32).toInt = 2 by decide); have n3 := lv_neT c_101 (show (3 : Int32).toInt = 3 by decide); have n4 := lv_neT c_129 (show (4 : Int32).toInt = 4 by decide); have n5 := lv_neT c_179 (show (5 : Int32).toInt = 5 by decide); have n6 := lv_neT c_198 (show (6 : Int32).toInt = 6 by decide); have n7 := lv_neT c_217 (show (7 : Int32).toInt = 7 by decide); have n8 := lv_neT c_236 (show (8 : Int32).toInt = 8 by decide); have n9 := lv_neT c_245 (show (9 : Int32).toInt = 9 by decide); have n10 := lv_neT c_279 (show (10 : Int32).toInt = 10 by decide); have n11 := lv_neT c_313 (show (11 : Int32).toInt = 11 by decide); have n12 := lv_neT c_347 (show (12 : Int32).toInt = 12 by decide); have n13 := lv_neT c_381 (show (13 : Int32).toInt = 13 by decide); omega) (by decide) ?_
                                  obtain ⟨x4_409, ex4_409⟩ : ∃ y : Int32, y = x4 + 4 := ⟨_, rfl⟩
                                  have hw := hw x4_409 ex4_409
                                  refine lv_iinc (v := x4_409) (lv' := [(4, .int x4_409), (0, .ref b), (1, .ref (q 0)), (2, .ref (r 0)), (3, .ref qo)]) hx hb dXl_law_897 hl (k := 4) rfl (by rw [ex4_409]; rfl) (by decide) rfl (fun ls hl => ?_)
                                  refine lv_goto (tgt := 23) hx hb dXl_law_900 (by decide) ?_
                                  exact ih x4_409 kc ks M N o _ _ _ hw hP hD hS (lv_sub hl [1, 2, 3, 4, 0] rfl)
