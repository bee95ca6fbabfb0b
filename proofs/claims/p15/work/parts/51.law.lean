def wlLaw (L : Nat) (xs : Nat → Int32) : Nat → Int32 → Nat → Nat → Mm → Mm → (Nat → Int64) → Prop
  | 0 => fun _ _ _ _ _ _ => False
  | n + 1 => fun x4 kc ks M N o => ∀ y_1 : Int32, y_1 = nI L → (∀ y_2 : Int32, y_2 = y_1 - 4 → (((y_2 < x4 → (kc ≤ 1096 ∧ ks ≤ 10019)) ∧ (¬ y_2 < x4 → (vp_in x4 L ∧ (∀ y_5 : Int32, y_5 = xs x4.toNatClampNeg → (∀ y_6 : Int32, y_6 = y_5 &&& 15 → (((y_6 = 0 → (∀ y_9 : Int32, y_9 = x4 + 1 → (vp_in y_9 L ∧ (∀ y_11 : Int32, y_11 = xs y_9.toNatClampNeg → (∀ y_12 : Int32, y_12 = x4 + 2 → (vp_in y_12 L ∧ (∀ y_14 : Int32, y_14 = xs y_12.toNatClampNeg → (∀ y_15 : Int32, y_15 = x4 + 3 → (vp_in y_15 L ∧ (∀ y_17 : Int32, y_17 = xs y_15.toNatClampNeg → (kc + 1 ≤ 1096 ∧ (ks + 6 ≤ 10019 ∧ (wpXl_act y_11 y_14 y_17 M o (fun r_18 u_21 => (∀ y_24 : Int32, y_24 = x4 + 1 → (vp_in y_24 L ∧ (∀ y_26 : Int32, y_26 = xs y_24.toNatClampNeg → (∀ y_27 : Int32, y_27 = x4 + 2 → (vp_in y_27 L ∧ (∀ y_29 : Int32, y_29 = xs y_27.toNatClampNeg → (∀ y_30 : Int32, y_30 = x4 + 3 → (vp_in y_30 L ∧ (∀ y_32 : Int32, y_32 = xs y_30.toNatClampNeg → ((kc + 1) ≤ 1096 ∧ ((ks + 6) ≤ 10019 ∧ (wpXm_act y_26 y_29 y_32 N (fun r_33 M_34 => (∀ x4_37 : Int32, x4_37 = x4 + 4 → (wlLaw L xs n x4_37 (kc + 1) (ks + 6) u_21.1 M_34 u_21.2))))))))))))))))))))))))))))) ∧ (¬ y_6 = 0 → (((y_6 = 1 → (∀ y_39 : Int32, y_39 = x4 + 1 → (vp_in y_39 L ∧ (∀ y_41 : Int32, y_41 = xs y_39.toNatClampNeg → (∀ y_42 : Int32, y_42 = x4 + 2 → (vp_in y_42 L ∧ (∀ y_44 : Int32, y_44 = xs y_42.toNatClampNeg → (kc + 1 ≤ 1096 ∧ (ks + 6 ≤ 10019 ∧ (wpXl_finish y_41 y_44 M (fun r_45 M_48 => (∀ y_49 : Int32, y_49 = x4 + 1 → (vp_in y_49 L ∧ (∀ y_51 : Int32, y_51 = xs y_49.toNatClampNeg → (∀ y_52 : Int32, y_52 = x4 + 2 → (vp_in y_52 L ∧ (∀ y_54 : Int32, y_54 = xs y_52.toNatClampNeg → ((kc + 1) ≤ 1096 ∧ ((ks + 6) ≤ 10019 ∧ (wpXm_finish y_51 y_54 N (fun M_56 => (∀ x4_59 : Int32, x4_59 = x4 + 4 → (wlLaw L xs n x4_59 (kc + 1) (ks + 6) M_48 M_56 o))))))))))))))))))))))) ∧ (¬ y_6 = 1 → (((y_6 = 2 → (∀ y_61 : Int32, y_61 = x4 + 1 → (vp_in y_61 L ∧ (∀ y_63 : Int32, y_63 = xs y_61.toNatClampNeg → (kc + 1 ≤ 1096 ∧ (ks + 6 ≤ 10019 ∧ (wpXl_call y_63 M o (fun r_64 u_67 => (∀ y_70 : Int32, y_70 = x4 + 1 → (vp_in y_70 L ∧ (∀ y_72 : Int32, y_72 = xs y_70.toNatClampNeg → ((kc + 1) ≤ 1096 ∧ ((ks + 6) ≤ 10019 ∧ (wpXm_call y_72 N (fun r_73 M_74 => (∀ x4_77 : Int32, x4_77 = x4 + 4 → (wlLaw L xs n x4_77 (kc + 1) (ks + 6) u_67.1 M_74 u_67.2))))))))))))))))) ∧ (¬ y_6 = 2 → (((y_6 = 3 → (∀ y_79 : Int32, y_79 = x4 + 1 → (vp_in y_79 L ∧ (∀ y_81 : Int32, y_81 = xs y_79.toNatClampNeg → (kc + 1 ≤ 1096 ∧ (ks + 6 ≤ 10019 ∧ (wpXl_step y_81 M o (fun r_82 u_85 => (∀ y_88 : Int32, y_88 = x4 + 1 → (vp_in y_88 L ∧ (∀ y_90 : Int32, y_90 = xs y_88.toNatClampNeg → ((kc + 1) ≤ 1096 ∧ ((ks + 6) ≤ 10019 ∧ (wpXm_step y_90 N (fun r_91 M_92 => (∀ x4_95 : Int32, x4_95 = x4 + 4 → (wlLaw L xs n x4_95 (kc + 1) (ks + 6) u_85.1 M_92 u_85.2))))))))))))))))) ∧ (¬ y_6 = 3 → (((y_6 = 4 → (∀ y_97 : Int32, y_97 = x4 + 1 → (vp_in y_97 L ∧ (∀ y_99 : Int32, y_99 = xs y_97.toNatClampNeg → (∀ y_100 : Int64, y_100 = y_99.toInt64 → (∀ y_101 : Int64, y_101 = y_100 <<< ((32 : Int32).toInt64 &&& 63) → (∀ y_102 : Int32, y_102 = x4 + 2 → (vp_in y_102 L ∧ (∀ y_104 : Int32, y_104 = xs y_102.toNatClampNeg → (∀ y_105 : Int64, y_105 = y_104.toInt64 → (∀ y_106 : Int64, y_106 = y_105 &&& 4294967295 → (∀ y_107 : Int64, y_107 = y_101 ||| y_106 → (∀ y_108 : Int32, y_108 = x4 + 3 → (vp_in y_108 L ∧ (∀ y_110 : Int32, y_110 = xs y_108.toNatClampNeg → (kc + 1 ≤ 1096 ∧ (ks + 6 ≤ 10019 ∧ (wpXl_run y_107 y_110 M o (fun r_111 u_114 => (∀ y_117 : Int32, y_117 = x4 + 1 → (vp_in y_117 L ∧ (∀ y_119 : Int32, y_119 = xs y_117.toNatClampNeg → (∀ y_120 : Int64, y_120 = y_119.toInt64 → (∀ y_121 : Int64, y_121 = y_120 <<< ((32 : Int32).toInt64 &&& 63) → (∀ y_122 : Int32, y_122 = x4 + 2 → (vp_in y_122 L ∧ (∀ y_124 : Int32, y_124 = xs y_122.toNatClampNeg → (∀ y_125 : Int64, y_125 = y_124.toInt64 → (∀ y_126 : Int64, y_126 = y_125 &&& 4294967295 → (∀ y_127 : Int64, y_127 = y_121 ||| y_126 → (∀ y_128 : Int32, y_128 = x4 + 3 → (vp_in y_128 L ∧ (∀ y_130 : Int32, y_130 = xs y_128.toNatClampNeg → ((kc + 1) ≤ 1096 ∧ ((ks + 6) ≤ 10019 ∧ (wpXm_run y_127 y_130 N (fun r_131 M_132 => (∀ x4_135 : Int32, x4_135 = x4 + 4 → (wlLaw L xs n x4_135 (kc + 1) (ks + 6) u_114.1 M_132 u_114.2))))))))))))))))))))))))))))))))))))))) ∧ (¬ y_6 = 4 → (((y_6 = 5 → (∀ y_137 : Int32, y_137 = x4 + 1 → (vp_in y_137 L ∧ (∀ y_139 : Int32, y_139 = xs y_137.toNatClampNeg → (kc + 1 ≤ 1096 ∧ (ks + 6 ≤ 10019 ∧ (wpXl_kill y_139 M (fun r_140 M_143 => (∀ y_144 : Int32, y_144 = x4 + 1 → (vp_in y_144 L ∧ (∀ y_146 : Int32, y_146 = xs y_144.toNatClampNeg → ((kc + 1) ≤ 1096 ∧ ((ks + 6) ≤ 10019 ∧ (wpXm_kill y_146 N (fun M_148 => (∀ x4_151 : Int32, x4_151 = x4 + 4 → (wlLaw L xs n x4_151 (kc + 1) (ks + 6) M_143 M_148 o))))))))))))))))) ∧ (¬ y_6 = 5 → (((y_6 = 6 → (∀ y_153 : Int32, y_153 = x4 + 1 → (vp_in y_153 L ∧ (∀ y_155 : Int32, y_155 = xs y_153.toNatClampNeg → (kc + 1 ≤ 1096 ∧ (ks + 6 ≤ 10019 ∧ (wpXl_restart y_155 M (fun r_156 M_159 => (∀ y_160 : Int32, y_160 = x4 + 1 → (vp_in y_160 L ∧ (∀ y_162 : Int32, y_162 = xs y_160.toNatClampNeg → ((kc + 1) ≤ 1096 ∧ ((ks + 6) ≤ 10019 ∧ (wpXm_restart y_162 N (fun M_164 => (∀ x4_167 : Int32, x4_167 = x4 + 4 → (wlLaw L xs n x4_167 (kc + 1) (ks + 6) M_159 M_164 o))))))))))))))))) ∧ (¬ y_6 = 6 → (((y_6 = 7 → (∀ y_169 : Int32, y_169 = x4 + 1 → (vp_in y_169 L ∧ (∀ y_171 : Int32, y_171 = xs y_169.toNatClampNeg → (kc + 1 ≤ 1096 ∧ (ks + 6 ≤ 10019 ∧ (wpXl_lease y_171 M (fun r_172 M_175 => (∀ y_176 : Int32, y_176 = x4 + 1 → (vp_in y_176 L ∧ (∀ y_178 : Int32, y_178 = xs y_176.toNatClampNeg → ((kc + 1) ≤ 1096 ∧ ((ks + 6) ≤ 10019 ∧ (wpXm_lease y_178 N (fun M_180 => (∀ x4_183 : Int32, x4_183 = x4 + 4 → (wlLaw L xs n x4_183 (kc + 1) (ks + 6) M_175 M_180 o))))))))))))))))) ∧ (¬ y_6 = 7 → (((y_6 = 8 → (kc ≤ 1096 ∧ (ks ≤ 10019 ∧ (wpXs_close M (fun r_185 M_186 => (wpXm_close N (fun r_189 M_190 => (∀ x4_191 : Int32, x4_191 = x4 + 4 → (wlLaw L xs n x4_191 kc ks M_186 M_190 o))))))))) ∧ (¬ y_6 = 8 → (((y_6 = 9 → (∀ y_193 : Int32, y_193 = x4 + 1 → (vp_in y_193 L ∧ (∀ y_195 : Int32, y_195 = xs y_193.toNatClampNeg → (∀ y_196 : Int32, y_196 = x4 + 2 → (vp_in y_196 L ∧ (∀ y_198 : Int32, y_198 = xs y_196.toNatClampNeg → (kc + 1 ≤ 1096 ∧ (ks + 6 ≤ 10019 ∧ (wpXl_unit y_195 y_198 M o (fun r_199 u_202 => (∀ y_205 : Int32, y_205 = x4 + 1 → (vp_in y_205 L ∧ (∀ y_207 : Int32, y_207 = xs y_205.toNatClampNeg → (∀ y_208 : Int32, y_208 = x4 + 2 → (vp_in y_208 L ∧ (∀ y_210 : Int32, y_210 = xs y_208.toNatClampNeg → ((kc + 1) ≤ 1096 ∧ ((ks + 6) ≤ 10019 ∧ (wpXm_unit y_207 y_210 N (fun r_211 M_212 => (∀ x4_215 : Int32, x4_215 = x4 + 4 → (wlLaw L xs n x4_215 (kc + 1) (ks + 6) u_202.1 M_212 u_202.2))))))))))))))))))))))) ∧ (¬ y_6 = 9 → (((y_6 = 10 → (∀ y_217 : Int32, y_217 = x4 + 1 → (vp_in y_217 L ∧ (∀ y_219 : Int32, y_219 = xs y_217.toNatClampNeg → (∀ y_220 : Int32, y_220 = x4 + 2 → (vp_in y_220 L ∧ (∀ y_222 : Int32, y_222 = xs y_220.toNatClampNeg → (kc + 1 ≤ 1096 ∧ (ks + 6 ≤ 10019 ∧ (wpXl_callAt y_219 y_222 M o (fun r_223 u_226 => (∀ y_229 : Int32, y_229 = x4 + 1 → (vp_in y_229 L ∧ (∀ y_231 : Int32, y_231 = xs y_229.toNatClampNeg → (∀ y_232 : Int32, y_232 = x4 + 2 → (vp_in y_232 L ∧ (∀ y_234 : Int32, y_234 = xs y_232.toNatClampNeg → ((kc + 1) ≤ 1096 ∧ ((ks + 6) ≤ 10019 ∧ (wpXm_callAt y_231 y_234 N (fun r_235 M_236 => (∀ x4_239 : Int32, x4_239 = x4 + 4 → (wlLaw L xs n x4_239 (kc + 1) (ks + 6) u_226.1 M_236 u_226.2))))))))))))))))))))))) ∧ (¬ y_6 = 10 → (((y_6 = 11 → (∀ y_241 : Int32, y_241 = x4 + 1 → (vp_in y_241 L ∧ (∀ y_243 : Int32, y_243 = xs y_241.toNatClampNeg → (∀ y_244 : Int32, y_244 = x4 + 2 → (vp_in y_244 L ∧ (∀ y_246 : Int32, y_246 = xs y_244.toNatClampNeg → (kc + 1 ≤ 1096 ∧ (ks + 6 ≤ 10019 ∧ (wpXl_thread y_243 y_246 M o (fun r_247 u_250 => (∀ y_253 : Int32, y_253 = x4 + 1 → (vp_in y_253 L ∧ (∀ y_255 : Int32, y_255 = xs y_253.toNatClampNeg → (∀ y_256 : Int32, y_256 = x4 + 2 → (vp_in y_256 L ∧ (∀ y_258 : Int32, y_258 = xs y_256.toNatClampNeg → ((kc + 1) ≤ 1096 ∧ ((ks + 6) ≤ 10019 ∧ (wpXm_thread y_255 y_258 N (fun r_259 M_260 => (∀ x4_263 : Int32, x4_263 = x4 + 4 → (wlLaw L xs n x4_263 (kc + 1) (ks + 6) u_250.1 M_260 u_250.2))))))))))))))))))))))) ∧ (¬ y_6 = 11 → (((y_6 = 12 → (∀ y_265 : Int32, y_265 = x4 + 1 → (vp_in y_265 L ∧ (∀ y_267 : Int32, y_267 = xs y_265.toNatClampNeg → (∀ y_268 : Int32, y_268 = x4 + 2 → (vp_in y_268 L ∧ (∀ y_270 : Int32, y_270 = xs y_268.toNatClampNeg → (kc + 1 ≤ 1096 ∧ (ks + 6 ≤ 10019 ∧ (wpXl_row y_267 y_270 M o (fun r_271 u_274 => (∀ y_277 : Int32, y_277 = x4 + 1 → (vp_in y_277 L ∧ (∀ y_279 : Int32, y_279 = xs y_277.toNatClampNeg → (∀ y_280 : Int32, y_280 = x4 + 2 → (vp_in y_280 L ∧ (∀ y_282 : Int32, y_282 = xs y_280.toNatClampNeg → ((kc + 1) ≤ 1096 ∧ ((ks + 6) ≤ 10019 ∧ (wpXm_row y_279 y_282 N (fun r_283 M_284 => (∀ x4_287 : Int32, x4_287 = x4 + 4 → (wlLaw L xs n x4_287 (kc + 1) (ks + 6) u_274.1 M_284 u_274.2))))))))))))))))))))))) ∧ (¬ y_6 = 12 → (((y_6 = 13 → (∀ y_289 : Int32, y_289 = x4 + 1 → (vp_in y_289 L ∧ (∀ y_291 : Int32, y_291 = xs y_289.toNatClampNeg → (kc + 1 ≤ 1096 ∧ (ks + 6 ≤ 10019 ∧ (wpXl_count y_291 M o (fun r_292 u_295 => (∀ y_298 : Int32, y_298 = x4 + 1 → (vp_in y_298 L ∧ (∀ y_300 : Int32, y_300 = xs y_298.toNatClampNeg → ((kc + 1) ≤ 1096 ∧ ((ks + 6) ≤ 10019 ∧ (wpXm_count y_300 N (fun r_301 M_302 => (wpXm_thrown M_302 (fun r_305 M_306 => (((r_305 = r_292 → (((r_292 = 0 → (∀ y_311 : Int64, y_311 = u_295.2 0 → (∀ y_312 : Int64, y_312 = r_301.toInt64 → (∀ y_313 : Int32, y_313 = lg_cmp y_311 y_312 → (((y_313 = 0 → (∀ x4_315 : Int32, x4_315 = x4 + 4 → (wlLaw L xs n x4_315 (kc + 1) (ks + 6) u_295.1 M_306 u_295.2))) ∧ (¬ y_313 = 0 → (False)))))))) ∧ (¬ r_292 = 0 → (∀ x4_309 : Int32, x4_309 = x4 + 4 → (wlLaw L xs n x4_309 (kc + 1) (ks + 6) u_295.1 M_306 u_295.2)))))) ∧ (¬ r_305 = r_292 → (False))))))))))))))))))))) ∧ (¬ y_6 = 13 → (∀ x4_316 : Int32, x4_316 = x4 + 4 → (wlLaw L xs n x4_316 kc ks M N o)))))))))))))))))))))))))))))))))))))))))))))))))))
/-- what holds all along the law: the machine, the words, the classes, what a throw and a catch want -/
def lwC (p : Program) (l : Launch) (s : State) (m : MethodId) (meth : Method) (c : Code) (b L : Nat) (xs : Nat → Int32) (dC : Nat → ClassId) (dI : Nat → Nat → Nat) (dA dB : Nat → ClassId) (dO : ClassId) : Prop :=
  p.tables.exec = Jvm.exec ∧ c.code = cXl_law ∧ meth.sig.returnType = ret ∧ c.maxLocals = 7 ∧ s.vm.findClass "ServiceThreadsLaw" = some m.cls ∧ (∀ w ∈ wsG, w.before #[Value.ref b] s = true) ∧ va_X b L xs s s.heap ∧ b < s.heap.size ∧ meth.locks = false ∧ l.stackTraces = false ∧ zU (fun q : Nat => s.heap.size ≤ q) s s.heap ∧ sL s ∧ va_K (dC, dI) vwCl (tM dB ++ tH dA dO) s ∧ va_K (dC, dI) vwCl (tM dB) s ∧ va_K (dC, dI) vwCl (tH dA dO) s ∧ va_K (dC, dI) vwCl (tX dA) s
set_option maxHeartbeats 16000000 in
set_option maxRecDepth 100000 in
theorem LwlLaw {p : Program} {l : Launch} {e : Env} {s : State} {m : MethodId} {below : List Frame} {meth : Method} {c : Code} {dC : Nat → ClassId} {dI : Nat → Nat → Nat} {q r : Nat → Nat} {dA dB : Nat → ClassId} {qo : Nat} {dO : ClassId} {b L : Nat} {xs : Nat → Int32} (CX : lwC p l s m meth c b L xs dC dI dA dB dO) : ∀ (n : Nat) (x4 : Int32) (kc ks : Nat) (M N : Mm) (o : Nat → Int64) (H : Heap) (locs : List Loc) (ls : Array Slot), wlLaw L xs n x4 kc ks M N o → va_P (dC, dI) vwCl (wM r dB N ++ wH q dA qo dO (M, o)) H → va_D (fun q : Nat => s.heap.size ≤ q) (wM r dB N ++ wH q dA qo dO (M, o)) → va_S (fun q : Nat => s.heap.size ≤ q) s.heap H locs → lv_has ls 7 [(0, .ref b), (1, .ref (q 0)), (2, .ref (r 0)), (3, .ref qo), (4, .int x4)] → W p l e room_1 s m #[Value.ref b] below meth c H locs kc ks (lw_Z below #[Value.ref b] s) (F0 m 23 ls []) := by
  obtain ⟨hx, hb, hr, hml, hown, hta, hX, hbl, hlocks, hl9, hZ, hsp, hK, hKm, hKh, hKx⟩ := CX
  have hA : ∀ q : Nat, s.heap.size ≤ q → (fun q : Nat => s.heap.size ≤ q) q := fun _ h => h
  have hbA : ¬ (fun q : Nat => s.heap.size ≤ q) b := Nat.not_le.mpr hbl
  intro n
  induction n with
  | zero =>
    intro x4 kc ks M N o H locs ls hw
    exact False.elim hw
  | succ n ih =>
    intro x4 kc ks M N o H locs ls hw hP hD hS hl
    dsimp only [wlLaw] at hw
    refine lv_iload hx hb dXl_law_23 (lv_at hl 4 rfl) ?_
    refine lv_aload_n hx hb dXl_law_25 rfl (lv_at hl 0 rfl) ?_
    refine va_slen hx hb hX hbl hbA hS dXl_law_26 ?_
    refine lv_topi (x := nI L) (fun y_1 ey_1 => ?_)
    have hw := hw y_1 ey_1
    refine lv_iconst (v := 4) hx hb dXl_law_27 (by decide) ?_
    refine lv_isub hx hb dXl_law_28 ?_
    refine lv_topi (fun y_2 ey_2 => ?_)
    have hw := hw y_2 ey_2
    refine lv_icmp_gt (tgt := 635) hx hb dXl_law_29 (by decide) (fun c_3 => ?_) (fun c_3 => ?_)
    · have hw := hw.1 c_3
      refine lv_iconst (v := 1) hx hb dXl_law_635 (by decide) ?_
      refine va_forget (fun q hq => hS.2.2 q hq) ?_
      refine W.widen (k := 1096) (n := 10019) hw.1 hw.2 ?_
      exact lw_ret hx hb hr hlocks dXl_law_636
    · have hw := hw.2 c_3
      refine lv_aload_n hx hb dXl_law_32 rfl (lv_at hl 0 rfl) ?_
      refine lv_iload hx hb dXl_law_33 (lv_at hl 4 rfl) ?_
      obtain ⟨h_4, hw⟩ := hw
      refine va_sld hx hb hX hbl hbA hS h_4 dXl_law_35 ?_
      refine lv_topi (fun y_5 ey_5 => ?_)
      have hw := hw y_5 ey_5
      refine lv_bipush (v := 15) hx hb dXl_law_36 (by decide) ?_
      refine lv_iand hx hb dXl_law_38 ?_
      refine lv_topi (fun y_6 ey_6 => ?_)
      have hw := hw y_6 ey_6
      rcases Classical.em (y_6 = 0) with c_8 | c_8
      · have hw := hw.1 c_8
        refine lv_tableIn (tgt := 108) (off := 69) hx hb dXl_law_39 (by rw [c_8]; decide) (by rw [c_8]; decide) (by rw [c_8]; decide) (by decide) ?_
        refine lv_aload_n hx hb dXl_law_108 rfl (lv_at hl 1 rfl) ?_
        refine lv_aload_n hx hb dXl_law_109 rfl (lv_at hl 0 rfl) ?_
        refine lv_iload hx hb dXl_law_110 (lv_at hl 4 rfl) ?_
        refine lv_iconst (v := 1) hx hb dXl_law_112 (by decide) ?_
        refine lv_iadd hx hb dXl_law_113 ?_
        refine lv_topi (fun y_9 ey_9 => ?_)
        have hw := hw y_9 ey_9
        obtain ⟨h_10, hw⟩ := hw
        refine va_sld hx hb hX hbl hbA hS h_10 dXl_law_114 ?_
        refine lv_topi (fun y_11 ey_11 => ?_)
        have hw := hw y_11 ey_11
        refine lv_aload_n hx hb dXl_law_115 rfl (lv_at hl 0 rfl) ?_
        refine lv_iload hx hb dXl_law_116 (lv_at hl 4 rfl) ?_
        refine lv_iconst (v := 2) hx hb dXl_law_118 (by decide) ?_
        refine lv_iadd hx hb dXl_law_119 ?_
        refine lv_topi (fun y_12 ey_12 => ?_)
        have hw := hw y_12 ey_12
        obtain ⟨h_13, hw⟩ := hw
        refine va_sld hx hb hX hbl hbA hS h_13 dXl_law_120 ?_
        refine lv_topi (fun y_14 ey_14 => ?_)
        have hw := hw y_14 ey_14
        refine lv_aload_n hx hb dXl_law_121 rfl (lv_at hl 0 rfl) ?_
        refine lv_iload hx hb dXl_law_122 (lv_at hl 4 rfl) ?_
        refine lv_iconst (v := 3) hx hb dXl_law_124 (by decide) ?_
        refine lv_iadd hx hb dXl_law_125 ?_
        refine lv_topi (fun y_15 ey_15 => ?_)
        have hw := hw y_15 ey_15
        obtain ⟨h_16, hw⟩ := hw
        refine va_sld hx hb hX hbl hbA hS h_16 dXl_law_126 ?_
        refine lv_topi (fun y_17 ey_17 => ?_)
        have hw := hw y_17 ey_17
        refine lv_aload_n hx hb dXl_law_127 rfl (lv_at hl 3 rfl) ?_
        obtain ⟨h_19, h_20, hw⟩ := hw
        refine cq_i (w := (wH q dA qo dO)) (M := (M, o)) (pre := wM r dB N) (wH_ad q dA qo dO) (vx_runSW (As := [.ref (q 0), .int y_11, .int y_14, .int y_17, .ref qo]) (rest := []) ⟨hx, hb, hml, hown, hta⟩ (mtXl_act l hl9 dC dI q dA qo dO H.size y_11 y_14 y_17 M o _ hw) (vx_cwSW 5 hta (giS wt_185 wt_186 wt_0 wt_187) rfl rfl rfl (by decide +kernel) ⟨(Nat.le_of_ble_eq_true rfl), (Nat.le_of_ble_eq_true rfl)⟩) ⟨pWx_blind sL_ok, pWx_of (pre := wM r dB N) (suf := []) sL_ok hKh (wP_r hP) (by rw [List.append_nil]; exact hD) hS hA hZ hsp⟩ rfl rfl hl.1 rfl (lv_room (Nat.le_of_ble_eq_true rfl)) dXl_law_128 ⟨h_19, h_20⟩) hP hD hS hA (fun r_18 u_21 H locs hw hP hD hS => ?_)
        have hP : va_P (dC, dI) vwCl (wM r dB N ++ wH q dA qo dO (u_21.1, u_21.2)) H := hP
        have hD : va_D (fun q : Nat => s.heap.size ≤ q) (wM r dB N ++ wH q dA qo dO (u_21.1, u_21.2)) := hD
        refine lv_istore (lv' := [(5, .int r_18), (0, .ref b), (1, .ref (q 0)), (2, .ref (r 0)), (3, .ref qo), (4, .int x4)]) hx hb dXl_law_131 hl (by decide) rfl (fun ls hl => ?_)
        refine lv_aload_n hx hb dXl_law_133 rfl (lv_at hl 3 rfl) ?_
        refine lv_aload_n hx hb dXl_law_134 rfl (lv_at hl 1 rfl) ?_
        refine lv_iload hx hb dXl_law_135 (lv_at hl 5 rfl) ?_
        refine lv_iconst (v := 1) hx hb dXl_law_137 (by decide) ?_
        refine lv_iadd hx hb dXl_law_138 ?_
        refine lv_topi (fun y_24 ey_24 => ?_)
        have hw := hw y_24 ey_24
        obtain ⟨h_25, hw⟩ := hw
        refine va_sld hx hb hX hbl hbA hS h_25 dXl_law_139 ?_
        refine lv_topi (fun y_26 ey_26 => ?_)
        have hw := hw y_26 ey_26
        refine lv_aload_n hx hb dXl_law_140 rfl (lv_at hl 1 rfl) ?_
        refine lv_iload hx hb dXl_law_141 (lv_at hl 5 rfl) ?_
        refine lv_iconst (v := 2) hx hb dXl_law_143 (by decide) ?_
        refine lv_iadd hx hb dXl_law_144 ?_
        refine lv_topi (fun y_27 ey_27 => ?_)
        have hw := hw y_27 ey_27
        obtain ⟨h_28, hw⟩ := hw
        refine va_sld hx hb hX hbl hbA hS h_28 dXl_law_145 ?_
        refine lv_topi (fun y_29 ey_29 => ?_)
        have hw := hw y_29 ey_29
        refine lv_aload_n hx hb dXl_law_146 rfl (lv_at hl 1 rfl) ?_
        refine lv_iload hx hb dXl_law_147 (lv_at hl 5 rfl) ?_
        refine lv_iconst (v := 3) hx hb dXl_law_149 (by decide) ?_
        refine lv_iadd hx hb dXl_law_150 ?_
        refine lv_topi (fun y_30 ey_30 => ?_)
        have hw := hw y_30 ey_30
        obtain ⟨h_31, hw⟩ := hw
        refine va_sld hx hb hX hbl hbA hS h_31 dXl_law_151 ?_
        refine lv_topi (fun y_32 ey_32 => ?_)
        have hw := hw y_32 ey_32
        obtain ⟨h_35, h_36, hw⟩ := hw
        refine cp_i (w := (wM r dB)) (M := N) (suf := wH q dA qo dO (u_21.1, u_21.2)) (wM_ad r dB) (va_runV (As := [.int y_26, .int y_29, .int y_32]) (rest := []) ⟨hx, hb, hml, hown, hta⟩ (mtXm_act l dC dI r dB H.size y_26 y_29 y_32 N _ hw) (cwV 3 hta (giV wt_654 wt_655 wt_656 wt_7 wt_657) rfl rfl rfl (by decide +kernel) ⟨(Nat.le_of_ble_eq_true rfl), (Nat.le_of_ble_eq_true rfl)⟩) ⟨pW_blind, va_recv hKm (wP_l hP) (ci := 5) (q0 := 0) rfl (wM_0 r dB N), pW_of hKm (wP_l hP) (wD_l hD)⟩ rfl rfl hl.1 rfl (lv_room (Nat.le_of_ble_eq_true rfl)) dXl_law_152 ⟨h_35, h_36⟩) hP hD hS hA (fun r_33 M_34 H locs hw hP hD hS => ?_)
        refine lv_istore (lv' := [(6, .int r_33), (5, .int r_18), (0, .ref b), (1, .ref (q 0)), (2, .ref (r 0)), (3, .ref qo), (4, .int x4)]) hx hb dXl_law_155 hl (by decide) rfl (fun ls hl => ?_)
        refine lv_goto (tgt := 629) hx hb dXl_law_157 (by decide) ?_
        obtain ⟨x4_37, ex4_37⟩ : ∃ y : Int32, y = x4 + 4 := ⟨_, rfl⟩
        have hw := hw x4_37 ex4_37
        refine lv_iinc (v := x4_37) (lv' := [(4, .int x4_37), (6, .int r_33), (5, .int r_18), (0, .ref b), (1, .ref (q 0)), (2, .ref (r 0)), (3, .ref qo)]) hx hb dXl_law_629 hl (k := 6) rfl (by rw [ex4_37]; rfl) (by decide) rfl (fun ls hl => ?_)
        refine lv_goto (tgt := 23) hx hb dXl_law_632 (by decide) ?_
        exact ih x4_37 (kc + 1) (ks + 6) u_21.1 M_34 u_21.2 _ _ _ hw hP hD hS (lv_sub hl [3, 4, 5, 6, 0] rfl)
      · have hw := hw.2 c_8
        rcases Classical.em (y_6 = 1) with c_38 | c_38
        · have hw := hw.1 c_38
          refine lv_tableIn (tgt := 160) (off := 121) hx hb dXl_law_39 (by rw [c_38]; decide) (by rw [c_38]; decide) (by rw [c_38]; decide) (by decide) ?_
          refine lv_aload_n hx hb dXl_law_160 rfl (lv_at hl 1 rfl) ?_
          refine lv_aload_n hx hb dXl_law_161 rfl (lv_at hl 0 rfl) ?_
          refine lv_iload hx hb dXl_law_162 (lv_at hl 4 rfl) ?_
          refine lv_iconst (v := 1) hx hb dXl_law_164 (by decide) ?_
          refine lv_iadd hx hb dXl_law_165 ?_
          refine lv_topi (fun y_39 ey_39 => ?_)
          have hw := hw y_39 ey_39
          obtain ⟨h_40, hw⟩ := hw
          refine va_sld hx hb hX hbl hbA hS h_40 dXl_law_166 ?_
          refine lv_topi (fun y_41 ey_41 => ?_)
          have hw := hw y_41 ey_41
          refine lv_aload_n hx hb dXl_law_167 rfl (lv_at hl 0 rfl) ?_
          refine lv_iload hx hb dXl_law_168 (lv_at hl 4 rfl) ?_
          refine lv_iconst (v := 2) hx hb dXl_law_170 (by decide) ?_
          refine lv_iadd hx hb dXl_law_171 ?_
          refine lv_topi (fun y_42 ey_42 => ?_)
          have hw := hw y_42 ey_42
          obtain ⟨h_43, hw⟩ := hw
          refine va_sld hx hb hX hbl hbA hS h_43 dXl_law_172 ?_
          refine lv_topi (fun y_44 ey_44 => ?_)
          have hw := hw y_44 ey_44
          obtain ⟨h_46, h_47, hw⟩ := hw
          refine cr_i (w := (wX q dA)) (M := M) (pre := wM r dB N) (suf := [(qo, .inl (dO, 1, .inr (.inl o)))]) (wX_ad q dA) (vx_runSW (As := [.ref (q 0), .int y_41, .int y_44]) (rest := []) ⟨hx, hb, hml, hown, hta⟩ (mtXl_finish l hl9 dC dI q dA H.size y_41 y_44 M _ hw) (vx_cwSW 3 hta (giS wt_329 wt_330 wt_0 wt_331) rfl rfl rfl (by decide +kernel) ⟨(Nat.le_of_ble_eq_true rfl), (Nat.le_of_ble_eq_true rfl)⟩) ⟨pWx_blind sL_ok, pWx_of (pre := wM r dB N) (suf := [(qo, .inl (dO, 1, .inr (.inl o)))]) sL_ok hKx (wP_l (wP_r hP)) hD hS hA hZ hsp⟩ rfl rfl hl.1 rfl (lv_room (Nat.le_of_ble_eq_true rfl)) dXl_law_173 ⟨h_46, h_47⟩) hP hD hS hA (fun r_45 M_48 H locs hw hP hD hS => ?_)
          have hP : va_P (dC, dI) vwCl (wM r dB N ++ wH q dA qo dO (M_48, o)) H := hP
          have hD : va_D (fun q : Nat => s.heap.size ≤ q) (wM r dB N ++ wH q dA qo dO (M_48, o)) := hD
          refine lv_istore (lv' := [(5, .int r_45), (0, .ref b), (1, .ref (q 0)), (2, .ref (r 0)), (3, .ref qo), (4, .int x4)]) hx hb dXl_law_176 hl (by decide) rfl (fun ls hl => ?_)
          refine lv_aload_n hx hb dXl_law_178 rfl (lv_at hl 3 rfl) ?_
          refine lv_aload_n hx hb dXl_law_179 rfl (lv_at hl 1 rfl) ?_
          refine lv_iload hx hb dXl_law_180 (lv_at hl 5 rfl) ?_
          refine lv_iconst (v := 1) hx hb dXl_law_182 (by decide) ?_
          refine lv_iadd hx hb dXl_law_183 ?_
          refine lv_topi (fun y_49 ey_49 => ?_)
          have hw := hw y_49 ey_49
          obtain ⟨h_50, hw⟩ := hw
          refine va_sld hx hb hX hbl hbA hS h_50 dXl_law_184 ?_
          refine lv_topi (fun y_51 ey_51 => ?_)
          have hw := hw y_51 ey_51
          refine lv_aload_n hx hb dXl_law_185 rfl (lv_at hl 1 rfl) ?_
          refine lv_iload hx hb dXl_law_186 (lv_at hl 5 rfl) ?_
          refine lv_iconst (v := 2) hx hb dXl_law_188 (by decide) ?_
          refine lv_iadd hx hb dXl_law_189 ?_
          refine lv_topi (fun y_52 ey_52 => ?_)
          have hw := hw y_52 ey_52
          obtain ⟨h_53, hw⟩ := hw
          refine va_sld hx hb hX hbl hbA hS h_53 dXl_law_190 ?_
          refine lv_topi (fun y_54 ey_54 => ?_)
          have hw := hw y_54 ey_54
          obtain ⟨h_57, h_58, hw⟩ := hw
          refine cp_v (w := (wM r dB)) (M := N) (suf := wH q dA qo dO (M_48, o)) (wM_ad r dB) (va_runV (As := [.int y_51, .int y_54]) (rest := []) ⟨hx, hb, hml, hown, hta⟩ (mtXm_finish l dC dI r dB H.size y_51 y_54 N _ hw) (cwV 2 hta (giV wt_672 wt_673 wt_674 wt_7 wt_675) rfl rfl rfl (by decide +kernel) ⟨(Nat.le_of_ble_eq_true rfl), (Nat.le_of_ble_eq_true rfl)⟩) ⟨pW_blind, va_recv hKm (wP_l hP) (ci := 5) (q0 := 0) rfl (wM_0 r dB N), pW_of hKm (wP_l hP) (wD_l hD)⟩ rfl rfl hl.1 rfl (lv_room (Nat.le_of_ble_eq_true rfl)) dXl_law_191 ⟨h_57, h_58⟩) hP hD hS hA (fun M_56 H locs hw hP hD hS => ?_)
          refine lv_goto (tgt := 629) hx hb dXl_law_194 (by decide) ?_
          obtain ⟨x4_59, ex4_59⟩ : ∃ y : Int32, y = x4 + 4 := ⟨_, rfl⟩
          have hw := hw x4_59 ex4_59
          refine lv_iinc (v := x4_59) (lv' := [(4, .int x4_59), (5, .int r_45), (0, .ref b), (1, .ref (q 0)), (2, .ref (r 0)), (3, .ref qo)]) hx hb dXl_law_629 hl (k := 5) rfl (by rw [ex4_59]; rfl) (by decide) rfl (fun ls hl => ?_)
          refine lv_goto (tgt := 23) hx hb dXl_law_632 (by decide) ?_
          exact ih x4_59 (kc + 1) (ks + 6) M_48 M_56 o _ _ _ hw hP hD hS (lv_sub hl [2, 3, 4, 5, 0] rfl)
        · have hw := hw.2 c_38
          rcases Classical.em (y_6 = 2) with c_60 | c_60
          · have hw := hw.1 c_60
            refine lv_tableIn (tgt := 197) (off := 158) hx hb dXl_law_39 (by rw [c_60]; decide) (by rw [c_60]; decide) (by rw [c_60]; decide) (by decide) ?_
            refine lv_aload_n hx hb dXl_law_197 rfl (lv_at hl 1 rfl) ?_
            refine lv_aload_n hx hb dXl_law_198 rfl (lv_at hl 0 rfl) ?_
            refine lv_iload hx hb dXl_law_199 (lv_at hl 4 rfl) ?_
            refine lv_iconst (v := 1) hx hb dXl_law_201 (by decide) ?_
            refine lv_iadd hx hb dXl_law_202 ?_
            refine lv_topi (fun y_61 ey_61 => ?_)
            have hw := hw y_61 ey_61
            obtain ⟨h_62, hw⟩ := hw
            refine va_sld hx hb hX hbl hbA hS h_62 dXl_law_203 ?_
            refine lv_topi (fun y_63 ey_63 => ?_)
            have hw := hw y_63 ey_63
            refine lv_aload_n hx hb dXl_law_204 rfl (lv_at hl 3 rfl) ?_
            obtain ⟨h_65, h_66, hw⟩ := hw
            refine cq_i (w := (wH q dA qo dO)) (M := (M, o)) (pre := wM r dB N) (wH_ad q dA qo dO) (vx_runSW (As := [.ref (q 0), .int y_63, .ref qo]) (rest := []) ⟨hx, hb, hml, hown, hta⟩ (mtXl_call l hl9 dC dI q dA qo dO H.size y_63 M o _ hw) (vx_cwSW 3 hta (giS wt_345 wt_346 wt_0 wt_347) rfl rfl rfl (by decide +kernel) ⟨(Nat.le_of_ble_eq_true rfl), (Nat.le_of_ble_eq_true rfl)⟩) ⟨pWx_blind sL_ok, pWx_of (pre := wM r dB N) (suf := []) sL_ok hKh (wP_r hP) (by rw [List.append_nil]; exact hD) hS hA hZ hsp⟩ rfl rfl hl.1 rfl (lv_room (Nat.le_of_ble_eq_true rfl)) dXl_law_205 ⟨h_65, h_66⟩) hP hD hS hA (fun r_64 u_67 H locs hw hP hD hS => ?_)
            have hP : va_P (dC, dI) vwCl (wM r dB N ++ wH q dA qo dO (u_67.1, u_67.2)) H := hP
            have hD : va_D (fun q : Nat => s.heap.size ≤ q) (wM r dB N ++ wH q dA qo dO (u_67.1, u_67.2)) := hD
            refine lv_istore (lv' := [(5, .int r_64), (0, .ref b), (1, .ref (q 0)), (2, .ref (r 0)), (3, .ref qo), (4, .int x4)]) hx hb dXl_law_208 hl (by decide) rfl (fun ls hl => ?_)
            refine lv_aload_n hx hb dXl_law_210 rfl (lv_at hl 3 rfl) ?_
            refine lv_aload_n hx hb dXl_law_211 rfl (lv_at hl 1 rfl) ?_
            refine lv_iload hx hb dXl_law_212 (lv_at hl 5 rfl) ?_
            refine lv_iconst (v := 1) hx hb dXl_law_214 (by decide) ?_
            refine lv_iadd hx hb dXl_law_215 ?_
            refine lv_topi (fun y_70 ey_70 => ?_)
            have hw := hw y_70 ey_70
            obtain ⟨h_71, hw⟩ := hw
            refine va_sld hx hb hX hbl hbA hS h_71 dXl_law_216 ?_
            refine lv_topi (fun y_72 ey_72 => ?_)
            have hw := hw y_72 ey_72
            obtain ⟨h_75, h_76, hw⟩ := hw
            refine cp_i (w := (wM r dB)) (M := N) (suf := wH q dA qo dO (u_67.1, u_67.2)) (wM_ad r dB) (va_runV (As := [.int y_72]) (rest := []) ⟨hx, hb, hml, hown, hta⟩ (mtXm_call l dC dI r dB H.size y_72 N _ hw) (cwV 1 hta (giV wt_676 wt_677 wt_678 wt_7 wt_679) rfl rfl rfl (by decide +kernel) ⟨(Nat.le_of_ble_eq_true rfl), (Nat.le_of_ble_eq_true rfl)⟩) ⟨pW_blind, va_recv hKm (wP_l hP) (ci := 5) (q0 := 0) rfl (wM_0 r dB N), pW_of hKm (wP_l hP) (wD_l hD)⟩ rfl rfl hl.1 rfl (lv_room (Nat.le_of_ble_eq_true rfl)) dXl_law_217 ⟨h_75, h_76⟩) hP hD hS hA (fun r_73 M_74 H locs hw hP hD hS => ?_)
            refine lv_istore (lv' := [(6, .int r_73), (5, .int r_64), (0, .ref b), (1, .ref (q 0)), (2, .ref (r 0)), (3, .ref qo), (4, .int x4)]) hx hb dXl_law_220 hl (by decide) rfl (fun ls hl => ?_)
            refine lv_goto (tgt := 629) hx hb dXl_law_222 (by decide) ?_
            obtain ⟨x4_77, ex4_77⟩ : ∃ y : Int32, y = x4 + 4 := ⟨_, rfl⟩
            have hw := hw x4_77 ex4_77
            refine lv_iinc (v := x4_77) (lv' := [(4, .int x4_77), (6, .int r_73), (5, .int r_64), (0, .ref b), (1, .ref (q 0)), (2, .ref (r 0)), (3, .ref qo)]) hx hb dXl_law_629 hl (k := 6) rfl (by rw [ex4_77]; rfl) (by decide) rfl (fun ls hl => ?_)
            refine lv_goto (tgt := 23) hx hb dXl_law_632 (by decide) ?_
            exact ih x4_77 (kc + 1) (ks + 6) u_67.1 M_74 u_67.2 _ _ _ hw hP hD hS (lv_sub hl [3, 4, 5, 6, 0] rfl)
          · have hw := hw.2 c_60
            rcases Classical.em (y_6 = 3) with c_78 | c_78
            · have hw := hw.1 c_78
              refine lv_tableIn (tgt := 225) (off := 186) hx hb dXl_law_39 (by rw [c_78]; decide) (by rw [c_78]; decide) (by rw [c_78]; decide) (by decide) ?_
              refine lv_aload_n hx hb dXl_law_225 rfl (lv_at hl 1 rfl) ?_
              refine lv_aload_n hx hb dXl_law_226 rfl (lv_at hl 0 rfl) ?_
              refine lv_iload hx hb dXl_law_227 (lv_at hl 4 rfl) ?_
              refine lv_iconst (v := 1) hx hb dXl_law_229 (by decide) ?_
              refine lv_iadd hx hb dXl_law_230 ?_
              refine lv_topi (fun y_79 ey_79 => ?_)
              have hw := hw y_79 ey_79
              obtain ⟨h_80, hw⟩ := hw
              refine va_sld hx hb hX hbl hbA hS h_80 dXl_law_231 ?_
              refine lv_topi (fun y_81 ey_81 => ?_)
              have hw := hw y_81 ey_81
              refine lv_aload_n hx hb dXl_law_232 rfl (lv_at hl 3 rfl) ?_
              obtain ⟨h_83, h_84, hw⟩ := hw
              refine cq_i (w := (wH q dA qo dO)) (M := (M, o)) (pre := wM r dB N) (wH_ad q dA qo dO) (vx_runSW (As := [.ref (q 0), .int y_81, .ref qo]) (rest := []) ⟨hx, hb, hml, hown, hta⟩ (mtXl_step l hl9 dC dI q dA qo dO H.size y_81 M o _ hw) (vx_cwSW 3 hta (giS wt_373 wt_374 wt_0 wt_375) rfl rfl rfl (by decide +kernel) ⟨(Nat.le_of_ble_eq_true rfl), (Nat.le_of_ble_eq_true rfl)⟩) ⟨pWx_blind sL_ok, pWx_of (pre := wM r dB N) (suf := []) sL_ok hKh (wP_r hP) (by rw [List.append_nil]; exact hD) hS hA hZ hsp⟩ rfl rfl hl.1 rfl (lv_room (Nat.le_of_ble_eq_true rfl)) dXl_law_233 ⟨h_83, h_84⟩) hP hD hS hA (fun r_82 u_85 H locs hw hP hD hS => ?_)
              have hP : va_P (dC, dI) vwCl (wM r dB N ++ wH q dA qo dO (u_85.1, u_85.2)) H := hP
              have hD : va_D (fun q : Nat => s.heap.size ≤ q) (wM r dB N ++ wH q dA qo dO (u_85.1, u_85.2)) := hD
              refine lv_istore (lv' := [(5, .int r_82), (0, .ref b), (1, .ref (q 0)), (2, .ref (r 0)), (3, .ref qo), (4, .int x4)]) hx hb dXl_law_236 hl (by decide) rfl (fun ls hl => ?_)
              refine lv_aload_n hx hb dXl_law_238 rfl (lv_at hl 3 rfl) ?_
              refine lv_aload_n hx hb dXl_law_239 rfl (lv_at hl 1 rfl) ?_
              refine lv_iload hx hb dXl_law_240 (lv_at hl 5 rfl) ?_
              refine lv_iconst (v := 1) hx hb dXl_law_242 (by decide) ?_
              refine lv_iadd hx hb dXl_law_243 ?_
              refine lv_topi (fun y_88 ey_88 => ?_)
              have hw := hw y_88 ey_88
              obtain ⟨h_89, hw⟩ := hw
              refine va_sld hx hb hX hbl hbA hS h_89 dXl_law_244 ?_
              refine lv_topi (fun y_90 ey_90 => ?_)
              have hw := hw y_90 ey_90
              obtain ⟨h_93, h_94, hw⟩ := hw
              refine cp_i (w := (wM r dB)) (M := N) (suf := wH q dA qo dO (u_85.1, u_85.2)) (wM_ad r dB) (va_runV (As := [.int y_90]) (rest := []) ⟨hx, hb, hml, hown, hta⟩ (mtXm_step l dC dI r dB H.size y_90 N _ hw) (cwV 1 hta (giV wt_680 wt_681 wt_682 wt_7 wt_683) rfl rfl rfl (by decide +kernel) ⟨(Nat.le_of_ble_eq_true rfl), (Nat.le_of_ble_eq_true rfl)⟩) ⟨pW_blind, va_recv hKm (wP_l hP) (ci := 5) (q0 := 0) rfl (wM_0 r dB N), pW_of hKm (wP_l hP) (wD_l hD)⟩ rfl rfl hl.1 rfl (lv_room (Nat.le_of_ble_eq_true rfl)) dXl_law_245 ⟨h_93, h_94⟩) hP hD hS hA (fun r_91 M_92 H locs hw hP hD hS => ?_)
              refine lv_istore (lv' := [(6, .int r_91), (5, .int r_82), (0, .ref b), (1, .ref (q 0)), (2, .ref (r 0)), (3, .ref qo), (4, .int x4)]) hx hb dXl_law_248 hl (by decide) rfl (fun ls hl => ?_)
              refine lv_goto (tgt := 629) hx hb dXl_law_250 (by decide) ?_
              obtain ⟨x4_95, ex4_95⟩ : ∃ y : Int32, y = x4 + 4 := ⟨_, rfl⟩
              have hw := hw x4_95 ex4_95
              refine lv_iinc (v := x4_95) (lv' := [(4, .int x4_95), (6, .int r_91), (5, .int r_82), (0, .ref b), (1, .ref (q 0)), (2, .ref (r 0)), (3, .ref qo)]) hx hb dXl_law_629 hl (k := 6) rfl (by rw [ex4_95]; rfl) (by decide) rfl (fun ls hl => ?_)
              refine lv_goto (tgt := 23) hx hb dXl_law_632 (by decide) ?_
              exact ih x4_95 (kc + 1) (ks + 6) u_85.1 M_92 u_85.2 _ _ _ hw hP hD hS (lv_sub hl [3, 4, 5, 6, 0] rfl)
            · have hw := hw.2 c_78
              rcases Classical.em (y_6 = 4) with c_96 | c_96
              · have hw := hw.1 c_96
                refine lv_tableIn (tgt := 253) (off := 214) hx hb dXl_law_39 (by rw [c_96]; decide) (by rw [c_96]; decide) (by rw [c_96]; decide) (by decide) ?_
                refine lv_aload_n hx hb dXl_law_253 rfl (lv_at hl 1 rfl) ?_
                refine lv_aload_n hx hb dXl_law_254 rfl (lv_at hl 0 rfl) ?_
                refine lv_iload hx hb dXl_law_255 (lv_at hl 4 rfl) ?_
                refine lv_iconst (v := 1) hx hb dXl_law_257 (by decide) ?_
                refine lv_iadd hx hb dXl_law_258 ?_
                refine lv_topi (fun y_97 ey_97 => ?_)
                have hw := hw y_97 ey_97
                obtain ⟨h_98, hw⟩ := hw
                refine va_sld hx hb hX hbl hbA hS h_98 dXl_law_259 ?_
                refine lv_topi (fun y_99 ey_99 => ?_)
                have hw := hw y_99 ey_99
                refine lv_i2l hx hb dXl_law_260 rfl ?_
                refine lv_topl (fun y_100 ey_100 => ?_)
                have hw := hw y_100 ey_100
                refine lv_bipush (v := 32) hx hb dXl_law_261 (by decide) ?_
                refine lv_lshl hx hb dXl_law_263 rfl ?_
                refine lv_topl (fun y_101 ey_101 => ?_)
                have hw := hw y_101 ey_101
                refine lv_aload_n hx hb dXl_law_264 rfl (lv_at hl 0 rfl) ?_
                refine lv_iload hx hb dXl_law_265 (lv_at hl 4 rfl) ?_
                refine lv_iconst (v := 2) hx hb dXl_law_267 (by decide) ?_
                refine lv_iadd hx hb dXl_law_268 ?_
                refine lv_topi (fun y_102 ey_102 => ?_)
                have hw := hw y_102 ey_102
                obtain ⟨h_103, hw⟩ := hw
                refine va_sld hx hb hX hbl hbA hS h_103 dXl_law_269 ?_
                refine lv_topi (fun y_104 ey_104 => ?_)
                have hw := hw y_104 ey_104
                refine lv_i2l hx hb dXl_law_270 rfl ?_
                refine lv_topl (fun y_105 ey_105 => ?_)
                have hw := hw y_105 ey_105
                refine lv_ldc2 hx hb hown (hta _ wt_788) dXl_law_271 ?_
                refine lv_land hx hb dXl_law_274 ?_
                refine lv_topl (fun y_106 ey_106 => ?_)
                have hw := hw y_106 ey_106
                refine lv_lor hx hb dXl_law_275 ?_
                refine lv_topl (fun y_107 ey_107 => ?_)
                have hw := hw y_107 ey_107
                refine lv_aload_n hx hb dXl_law_276 rfl (lv_at hl 0 rfl) ?_
                refine lv_iload hx hb dXl_law_277 (lv_at hl 4 rfl) ?_
                refine lv_iconst (v := 3) hx hb dXl_law_279 (by decide) ?_
                refine lv_iadd hx hb dXl_law_280 ?_
                refine lv_topi (fun y_108 ey_108 => ?_)
                have hw := hw y_108 ey_108
                obtain ⟨h_109, hw⟩ := hw
                refine va_sld hx hb hX hbl hbA hS h_109 dXl_law_281 ?_
                refine lv_topi (fun y_110 ey_110 => ?_)
                have hw := hw y_110 ey_110
                refine lv_aload_n hx hb dXl_law_282 rfl (lv_at hl 3 rfl) ?_
                obtain ⟨h_112, h_113, hw⟩ := hw
                refine cq_i (w := (wH q dA qo dO)) (M := (M, o)) (pre := wM r dB N) (wH_ad q dA qo dO) (vx_runSW (As := [.ref (q 0), .long y_107, .int y_110, .ref qo]) (rest := []) ⟨hx, hb, hml, hown, hta⟩ (mtXl_run l hl9 dC dI q dA qo dO H.size y_107 y_110 M o _ hw) (vx_cwSW 4 hta (giS wt_447 wt_448 wt_0 wt_449) rfl rfl rfl (by decide +kernel) ⟨(Nat.le_of_ble_eq_true rfl), (Nat.le_of_ble_eq_true rfl)⟩) ⟨pWx_blind sL_ok, pWx_of (pre := wM r dB N) (suf := []) sL_ok hKh (wP_r hP) (by rw [List.append_nil]; exact hD) hS hA hZ hsp⟩ rfl rfl hl.1 rfl (lv_room (Nat.le_of_ble_eq_true rfl)) dXl_law_283 ⟨h_112, h_113⟩) hP hD hS hA (fun r_111 u_114 H locs hw hP hD hS => ?_)
                have hP : va_P (dC, dI) vwCl (wM r dB N ++ wH q dA qo dO (u_114.1, u_114.2)) H := hP
                have hD : va_D (fun q : Nat => s.heap.size ≤ q) (wM r dB N ++ wH q dA qo dO (u_114.1, u_114.2)) := hD
                refine lv_istore (lv' := [(5, .int r_111), (0, .ref b), (1, .ref (q 0)), (2, .ref (r 0)), (3, .ref qo), (4, .int x4)]) hx hb dXl_law_286 hl (by decide) rfl (fun ls hl => ?_)
                refine lv_aload_n hx hb dXl_law_288 rfl (lv_at hl 3 rfl) ?_
                refine lv_aload_n hx hb dXl_law_289 rfl (lv_at hl 1 rfl) ?_
                refine lv_iload hx hb dXl_law_290 (lv_at hl 5 rfl) ?_
                refine lv_iconst (v := 1) hx hb dXl_law_292 (by decide) ?_
                refine lv_iadd hx hb dXl_law_293 ?_
                refine lv_topi (fun y_117 ey_117 => ?_)
                have hw := hw y_117 ey_117
                obtain ⟨h_118, hw⟩ := hw
                refine va_sld hx hb hX hbl hbA hS h_118 dXl_law_294 ?_
                refine lv_topi (fun y_119 ey_119 => ?_)
                have hw := hw y_119 ey_119
                refine lv_i2l hx hb dXl_law_295 rfl ?_
                refine lv_topl (fun y_120 ey_120 => ?_)
                have hw := hw y_120 ey_120
                refine lv_bipush (v := 32) hx hb dXl_law_296 (by decide) ?_
                refine lv_lshl hx hb dXl_law_298 rfl ?_
                refine lv_topl (fun y_121 ey_121 => ?_)
                have hw := hw y_121 ey_121
                refine lv_aload_n hx hb dXl_law_299 rfl (lv_at hl 1 rfl) ?_
                refine lv_iload hx hb dXl_law_300 (lv_at hl 5 rfl) ?_
                refine lv_iconst (v := 2) hx hb dXl_law_302 (by decide) ?_
                refine lv_iadd hx hb dXl_law_303 ?_
                refine lv_topi (fun y_122 ey_122 => ?_)
                have hw := hw y_122 ey_122
                obtain ⟨h_123, hw⟩ := hw
                refine va_sld hx hb hX hbl hbA hS h_123 dXl_law_304 ?_
                refine lv_topi (fun y_124 ey_124 => ?_)
                have hw := hw y_124 ey_124
                refine lv_i2l hx hb dXl_law_305 rfl ?_
                refine lv_topl (fun y_125 ey_125 => ?_)
                have hw := hw y_125 ey_125
                refine lv_ldc2 hx hb hown (hta _ wt_788) dXl_law_306 ?_
                refine lv_land hx hb dXl_law_309 ?_
                refine lv_topl (fun y_126 ey_126 => ?_)
                have hw := hw y_126 ey_126
                refine lv_lor hx hb dXl_law_310 ?_
                refine lv_topl (fun y_127 ey_127 => ?_)
                have hw := hw y_127 ey_127
                refine lv_aload_n hx hb dXl_law_311 rfl (lv_at hl 1 rfl) ?_
                refine lv_iload hx hb dXl_law_312 (lv_at hl 5 rfl) ?_
                refine lv_iconst (v := 3) hx hb dXl_law_314 (by decide) ?_
                refine lv_iadd hx hb dXl_law_315 ?_
                refine lv_topi (fun y_128 ey_128 => ?_)
                have hw := hw y_128 ey_128
                obtain ⟨h_129, hw⟩ := hw
                refine va_sld hx hb hX hbl hbA hS h_129 dXl_law_316 ?_
                refine lv_topi (fun y_130 ey_130 => ?_)
                have hw := hw y_130 ey_130
                obtain ⟨h_133, h_134, hw⟩ := hw
                refine cp_i (w := (wM r dB)) (M := N) (suf := wH q dA qo dO (u_114.1, u_114.2)) (wM_ad r dB) (va_runV (As := [.long y_127, .int y_130]) (rest := []) ⟨hx, hb, hml, hown, hta⟩ (mtXm_run l dC dI r dB H.size y_127 y_130 N _ hw) (cwV 2 hta (giV wt_744 wt_745 wt_746 wt_7 wt_747) rfl rfl rfl (by decide +kernel) ⟨(Nat.le_of_ble_eq_true rfl), (Nat.le_of_ble_eq_true rfl)⟩) ⟨pW_blind, va_recv hKm (wP_l hP) (ci := 5) (q0 := 0) rfl (wM_0 r dB N), pW_of hKm (wP_l hP) (wD_l hD)⟩ rfl rfl hl.1 rfl (lv_room (Nat.le_of_ble_eq_true rfl)) dXl_law_317 ⟨h_133, h_134⟩) hP hD hS hA (fun r_131 M_132 H locs hw hP hD hS => ?_)
                refine lv_istore (lv' := [(6, .int r_131), (5, .int r_111), (0, .ref b), (1, .ref (q 0)), (2, .ref (r 0)), (3, .ref qo), (4, .int x4)]) hx hb dXl_law_320 hl (by decide) rfl (fun ls hl => ?_)
                refine lv_goto (tgt := 629) hx hb dXl_law_322 (by decide) ?_
                obtain ⟨x4_135, ex4_135⟩ : ∃ y : Int32, y = x4 + 4 := ⟨_, rfl⟩
                have hw := hw x4_135 ex4_135
                refine lv_iinc (v := x4_135) (lv' := [(4, .int x4_135), (6, .int r_131), (5, .int r_111), (0, .ref b), (1, .ref (q 0)), (2, .ref (r 0)), (3, .ref qo)]) hx hb dXl_law_629 hl (k := 6) rfl (by rw [ex4_135]; rfl) (by decide) rfl (fun ls hl => ?_)
                refine lv_goto (tgt := 23) hx hb dXl_law_632 (by decide) ?_
                exact ih x4_135 (kc + 1) (ks + 6) u_114.1 M_132 u_114.2 _ _ _ hw hP hD hS (lv_sub hl [3, 4, 5, 6, 0] rfl)
              · have hw := hw.2 c_96
                rcases Classical.em (y_6 = 5) with c_136 | c_136
                · have hw := hw.1 c_136
                  refine lv_tableIn (tgt := 325) (off := 286) hx hb dXl_law_39 (by rw [c_136]; decide) (by rw [c_136]; decide) (by rw [c_136]; decide) (by decide) ?_
                  refine lv_aload_n hx hb dXl_law_325 rfl (lv_at hl 1 rfl) ?_
                  refine lv_aload_n hx hb dXl_law_326 rfl (lv_at hl 0 rfl) ?_
                  refine lv_iload hx hb dXl_law_327 (lv_at hl 4 rfl) ?_
                  refine lv_iconst (v := 1) hx hb dXl_law_329 (by decide) ?_
                  refine lv_iadd hx hb dXl_law_330 ?_
                  refine lv_topi (fun y_137 ey_137 => ?_)
                  have hw := hw y_137 ey_137
                  obtain ⟨h_138, hw⟩ := hw
                  refine va_sld hx hb hX hbl hbA hS h_138 dXl_law_331 ?_
                  refine lv_topi (fun y_139 ey_139 => ?_)
                  have hw := hw y_139 ey_139
                  obtain ⟨h_141, h_142, hw⟩ := hw
                  refine cr_i (w := (wX q dA)) (M := M) (pre := wM r dB N) (suf := [(qo, .inl (dO, 1, .inr (.inl o)))]) (wX_ad q dA) (vx_runSW (As := [.ref (q 0), .int y_139]) (rest := []) ⟨hx, hb, hml, hown, hta⟩ (mtXl_kill l hl9 dC dI q dA H.size y_139 M _ hw) (vx_cwSW 2 hta (giS wt_456 wt_457 wt_0 wt_458) rfl rfl rfl (by decide +kernel) ⟨(Nat.le_of_ble_eq_true rfl), (Nat.le_of_ble_eq_true rfl)⟩) ⟨pWx_blind sL_ok, pWx_of (pre := wM r dB N) (suf := [(qo, .inl (dO, 1, .inr (.inl o)))]) sL_ok hKx (wP_l (wP_r hP)) hD hS hA hZ hsp⟩ rfl rfl hl.1 rfl (lv_room (Nat.le_of_ble_eq_true rfl)) dXl_law_332 ⟨h_141, h_142⟩) hP hD hS hA (fun r_140 M_143 H locs hw hP hD hS => ?_)
                  have hP : va_P (dC, dI) vwCl (wM r dB N ++ wH q dA qo dO (M_143, o)) H := hP
                  have hD : va_D (fun q : Nat => s.heap.size ≤ q) (wM r dB N ++ wH q dA qo dO (M_143, o)) := hD
                  refine lv_istore (lv' := [(5, .int r_140), (0, .ref b), (1, .ref (q 0)), (2, .ref (r 0)), (3, .ref qo), (4, .int x4)]) hx hb dXl_law_335 hl (by decide) rfl (fun ls hl => ?_)
                  refine lv_aload_n hx hb dXl_law_337 rfl (lv_at hl 3 rfl) ?_
                  refine lv_aload_n hx hb dXl_law_338 rfl (lv_at hl 1 rfl) ?_
                  refine lv_iload hx hb dXl_law_339 (lv_at hl 5 rfl) ?_
                  refine lv_iconst (v := 1) hx hb dXl_law_341 (by decide) ?_
                  refine lv_iadd hx hb dXl_law_342 ?_
                  refine lv_topi (fun y_144 ey_144 => ?_)
                  have hw := hw y_144 ey_144
                  obtain ⟨h_145, hw⟩ := hw
                  refine va_sld hx hb hX hbl hbA hS h_145 dXl_law_343 ?_
                  refine lv_topi (fun y_146 ey_146 => ?_)
                  have hw := hw y_146 ey_146
                  obtain ⟨h_149, h_150, hw⟩ := hw
                  refine cp_v (w := (wM r dB)) (M := N) (suf := wH q dA qo dO (M_143, o)) (wM_ad r dB) (va_runV (As := [.int y_146]) (rest := []) ⟨hx, hb, hml, hown, hta⟩ (mtXm_kill l dC dI r dB H.size y_146 N _ hw) (cwV 1 hta (giV wt_748 wt_749 wt_750 wt_7 wt_751) rfl rfl rfl (by decide +kernel) ⟨(Nat.le_of_ble_eq_true rfl), (Nat.le_of_ble_eq_true rfl)⟩) ⟨pW_blind, va_recv hKm (wP_l hP) (ci := 5) (q0 := 0) rfl (wM_0 r dB N), pW_of hKm (wP_l hP) (wD_l hD)⟩ rfl rfl hl.1 rfl (lv_room (Nat.le_of_ble_eq_true rfl)) dXl_law_344 ⟨h_149, h_150⟩) hP hD hS hA (fun M_148 H locs hw hP hD hS => ?_)
                  refine lv_goto (tgt := 629) hx hb dXl_law_347 (by decide) ?_
                  obtain ⟨x4_151, ex4_151⟩ : ∃ y : Int32, y = x4 + 4 := ⟨_, rfl⟩
                  have hw := hw x4_151 ex4_151
                  refine lv_iinc (v := x4_151) (lv' := [(4, .int x4_151), (5, .int r_140), (0, .ref b), (1, .ref (q 0)), (2, .ref (r 0)), (3, .ref qo)]) hx hb dXl_law_629 hl (k := 5) rfl (by rw [ex4_151]; rfl) (by decide) rfl (fun ls hl => ?_)
                  refine lv_goto (tgt := 23) hx hb dXl_law_632 (by decide) ?_
                  exact ih x4_151 (kc + 1) (ks + 6) M_143 M_148 o _ _ _ hw hP hD hS (lv_sub hl [2, 3, 4, 5, 0] rfl)
                · have hw := hw.2 c_136
                  rcases Classical.em (y_6 = 6) with c_152 | c_152
                  · have hw := hw.1 c_152
                    refine lv_tableIn (tgt := 350) (off := 311) hx hb dXl_law_39 (by rw [c_152]; decide) (by rw [c_152]; decide) (by rw [c_152]; decide) (by decide) ?_
                    refine lv_aload_n hx hb dXl_law_350 rfl (lv_at hl 1 rfl) ?_
                    refine lv_aload_n hx hb dXl_law_351 rfl (lv_at hl 0 rfl) ?_
                    refine lv_iload hx hb dXl_law_352 (lv_at hl 4 rfl) ?_
                    refine lv_iconst (v := 1) hx hb dXl_law_354 (by decide) ?_
                    refine lv_iadd hx hb dXl_law_355 ?_
                    refine lv_topi (fun y_153 ey_153 => ?_)
                    have hw := hw y_153 ey_153
                    obtain ⟨h_154, hw⟩ := hw
                    refine va_sld hx hb hX hbl hbA hS h_154 dXl_law_356 ?_
                    refine lv_topi (fun y_155 ey_155 => ?_)
                    have hw := hw y_155 ey_155
                    obtain ⟨h_157, h_158, hw⟩ := hw
                    refine cr_i (w := (wX q dA)) (M := M) (pre := wM r dB N) (suf := [(qo, .inl (dO, 1, .inr (.inl o)))]) (wX_ad q dA) (vx_runSW (As := [.ref (q 0), .int y_155]) (rest := []) ⟨hx, hb, hml, hown, hta⟩ (mtXl_restart l hl9 dC dI q dA H.size y_155 M _ hw) (vx_cwSW 2 hta (giS wt_475 wt_476 wt_0 wt_477) rfl rfl rfl (by decide +kernel) ⟨(Nat.le_of_ble_eq_true rfl), (Nat.le_of_ble_eq_true rfl)⟩) ⟨pWx_blind sL_ok, pWx_of (pre := wM r dB N) (suf := [(qo, .inl (dO, 1, .inr (.inl o)))]) sL_ok hKx (wP_l (wP_r hP)) hD hS hA hZ hsp⟩ rfl rfl hl.1 rfl (lv_room (Nat.le_of_ble_eq_true rfl)) dXl_law_357 ⟨h_157, h_158⟩) hP hD hS hA (fun r_156 M_159 H locs hw hP hD hS => ?_)
                    have hP : va_P (dC, dI) vwCl (wM r dB N ++ wH q dA qo dO (M_159, o)) H := hP
                    have hD : va_D (fun q : Nat => s.heap.size ≤ q) (wM r dB N ++ wH q dA qo dO (M_159, o)) := hD
                    refine lv_istore (lv' := [(5, .int r_156), (0, .ref b), (1, .ref (q 0)), (2, .ref (r 0)), (3, .ref qo), (4, .int x4)]) hx hb dXl_law_360 hl (by decide) rfl (fun ls hl => ?_)
                    refine lv_aload_n hx hb dXl_law_362 rfl (lv_at hl 3 rfl) ?_
                    refine lv_aload_n hx hb dXl_law_363 rfl (lv_at hl 1 rfl) ?_
                    refine lv_iload hx hb dXl_law_364 (lv_at hl 5 rfl) ?_
                    refine lv_iconst (v := 1) hx hb dXl_law_366 (by decide) ?_
                    refine lv_iadd hx hb dXl_law_367 ?_
                    refine lv_topi (fun y_160 ey_160 => ?_)
                    have hw := hw y_160 ey_160
                    obtain ⟨h_161, hw⟩ := hw
                    refine va_sld hx hb hX hbl hbA hS h_161 dXl_law_368 ?_
                    refine lv_topi (fun y_162 ey_162 => ?_)
                    have hw := hw y_162 ey_162
                    obtain ⟨h_165, h_166, hw⟩ := hw
                    refine cp_v (w := (wM r dB)) (M := N) (suf := wH q dA qo dO (M_159, o)) (wM_ad r dB) (va_runV (As := [.int y_162]) (rest := []) ⟨hx, hb, hml, hown, hta⟩ (mtXm_restart l dC dI r dB H.size y_162 N _ hw) (cwV 1 hta (giV wt_756 wt_757 wt_758 wt_7 wt_759) rfl rfl rfl (by decide +kernel) ⟨(Nat.le_of_ble_eq_true rfl), (Nat.le_of_ble_eq_true rfl)⟩) ⟨pW_blind, va_recv hKm (wP_l hP) (ci := 5) (q0 := 0) rfl (wM_0 r dB N), pW_of hKm (wP_l hP) (wD_l hD)⟩ rfl rfl hl.1 rfl (lv_room (Nat.le_of_ble_eq_true rfl)) dXl_law_369 ⟨h_165, h_166⟩) hP hD hS hA (fun M_164 H locs hw hP hD hS => ?_)
                    refine lv_goto (tgt := 629) hx hb dXl_law_372 (by decide) ?_
                    obtain ⟨x4_167, ex4_167⟩ : ∃ y : Int32, y = x4 + 4 := ⟨_, rfl⟩
                    have hw := hw x4_167 ex4_167
                    refine lv_iinc (v := x4_167) (lv' := [(4, .int x4_167), (5, .int r_156), (0, .ref b), (1, .ref (q 0)), (2, .ref (r 0)), (3, .ref qo)]) hx hb dXl_law_629 hl (k := 5) rfl (by rw [ex4_167]; rfl) (by decide) rfl (fun ls hl => ?_)
                    refine lv_goto (tgt := 23) hx hb dXl_law_632 (by decide) ?_
                    exact ih x4_167 (kc + 1) (ks + 6) M_159 M_164 o _ _ _ hw hP hD hS (lv_sub hl [2, 3, 4, 5, 0] rfl)
                  · have hw := hw.2 c_152
                    rcases Classical.em (y_6 = 7) with c_168 | c_168
                    · have hw := hw.1 c_168
                      refine lv_tableIn (tgt := 375) (off := 336) hx hb dXl_law_39 (by rw [c_168]; decide) (by rw [c_168]; decide) (by rw [c_168]; decide) (by decide) ?_
                      refine lv_aload_n hx hb dXl_law_375 rfl (lv_at hl 1 rfl) ?_
                      refine lv_aload_n hx hb dXl_law_376 rfl (lv_at hl 0 rfl) ?_
                      refine lv_iload hx hb dXl_law_377 (lv_at hl 4 rfl) ?_
                      refine lv_iconst (v := 1) hx hb dXl_law_379 (by decide) ?_
                      refine lv_iadd hx hb dXl_law_380 ?_
                      refine lv_topi (fun y_169 ey_169 => ?_)
                      have hw := hw y_169 ey_169
                      obtain ⟨h_170, hw⟩ := hw
                      refine va_sld hx hb hX hbl hbA hS h_170 dXl_law_381 ?_
                      refine lv_topi (fun y_171 ey_171 => ?_)
                      have hw := hw y_171 ey_171
                      obtain ⟨h_173, h_174, hw⟩ := hw
                      refine cr_i (w := (wX q dA)) (M := M) (pre := wM r dB N) (suf := [(qo, .inl (dO, 1, .inr (.inl o)))]) (wX_ad q dA) (vx_runSW (As := [.ref (q 0), .int y_171]) (rest := []) ⟨hx, hb, hml, hown, hta⟩ (mtXl_lease l hl9 dC dI q dA H.size y_171 M _ hw) (vx_cwSW 2 hta (giS wt_483 wt_484 wt_0 wt_485) rfl rfl rfl (by decide +kernel) ⟨(Nat.le_of_ble_eq_true rfl), (Nat.le_of_ble_eq_true rfl)⟩) ⟨pWx_blind sL_ok, pWx_of (pre := wM r dB N) (suf := [(qo, .inl (dO, 1, .inr (.inl o)))]) sL_ok hKx (wP_l (wP_r hP)) hD hS hA hZ hsp⟩ rfl rfl hl.1 rfl (lv_room (Nat.le_of_ble_eq_true rfl)) dXl_law_382 ⟨h_173, h_174⟩) hP hD hS hA (fun r_172 M_175 H locs hw hP hD hS => ?_)
                      have hP : va_P (dC, dI) vwCl (wM r dB N ++ wH q dA qo dO (M_175, o)) H := hP
                      have hD : va_D (fun q : Nat => s.heap.size ≤ q) (wM r dB N ++ wH q dA qo dO (M_175, o)) := hD
                      refine lv_istore (lv' := [(5, .int r_172), (0, .ref b), (1, .ref (q 0)), (2, .ref (r 0)), (3, .ref qo), (4, .int x4)]) hx hb dXl_law_385 hl (by decide) rfl (fun ls hl => ?_)
                      refine lv_aload_n hx hb dXl_law_387 rfl (lv_at hl 3 rfl) ?_
                      refine lv_aload_n hx hb dXl_law_388 rfl (lv_at hl 1 rfl) ?_
                      refine lv_iload hx hb dXl_law_389 (lv_at hl 5 rfl) ?_
                      refine lv_iconst (v := 1) hx hb dXl_law_391 (by decide) ?_
                      refine lv_iadd hx hb dXl_law_392 ?_
                      refine lv_topi (fun y_176 ey_176 => ?_)
                      have hw := hw y_176 ey_176
                      obtain ⟨h_177, hw⟩ := hw
                      refine va_sld hx hb hX hbl hbA hS h_177 dXl_law_393 ?_
                      refine lv_topi (fun y_178 ey_178 => ?_)
                      have hw := hw y_178 ey_178
                      obtain ⟨h_181, h_182, hw⟩ := hw
                      refine cp_v (w := (wM r dB)) (M := N) (suf := wH q dA qo dO (M_175, o)) (wM_ad r dB) (va_runV (As := [.int y_178]) (rest := []) ⟨hx, hb, hml, hown, hta⟩ (mtXm_lease l dC dI r dB H.size y_178 N _ hw) (cwV 1 hta (giV wt_760 wt_761 wt_762 wt_7 wt_763) rfl rfl rfl (by decide +kernel) ⟨(Nat.le_of_ble_eq_true rfl), (Nat.le_of_ble_eq_true rfl)⟩) ⟨pW_blind, va_recv hKm (wP_l hP) (ci := 5) (q0 := 0) rfl (wM_0 r dB N), pW_of hKm (wP_l hP) (wD_l hD)⟩ rfl rfl hl.1 rfl (lv_room (Nat.le_of_ble_eq_true rfl)) dXl_law_394 ⟨h_181, h_182⟩) hP hD hS hA (fun M_180 H locs hw hP hD hS => ?_)
                      refine lv_goto (tgt := 629) hx hb dXl_law_397 (by decide) ?_
                      obtain ⟨x4_183, ex4_183⟩ : ∃ y : Int32, y = x4 + 4 := ⟨_, rfl⟩
                      have hw := hw x4_183 ex4_183
                      refine lv_iinc (v := x4_183) (lv' := [(4, .int x4_183), (5, .int r_172), (0, .ref b), (1, .ref (q 0)), (2, .ref (r 0)), (3, .ref qo)]) hx hb dXl_law_629 hl (k := 5) rfl (by rw [ex4_183]; rfl) (by decide) rfl (fun ls hl => ?_)
                      refine lv_goto (tgt := 23) hx hb dXl_law_632 (by decide) ?_
                      exact ih x4_183 (kc + 1) (ks + 6) M_175 M_180 o _ _ _ hw hP hD hS (lv_sub hl [2, 3, 4, 5, 0] rfl)
                    · have hw := hw.2 c_168
                      rcases Classical.em (y_6 = 8) with c_184 | c_184
                      · have hw := hw.1 c_184
                        refine lv_tableIn (tgt := 400) (off := 361) hx hb dXl_law_39 (by rw [c_184]; decide) (by rw [c_184]; decide) (by rw [c_184]; decide) (by decide) ?_
                        refine lv_aload_n hx hb dXl_law_400 rfl (lv_at hl 1 rfl) ?_
                        obtain ⟨h_187, h_188, hw⟩ := hw
                        refine cr_i (w := (wX q dA)) (M := M) (pre := wM r dB N) (suf := [(qo, .inl (dO, 1, .inr (.inl o)))]) (wX_ad q dA) (va_runV (As := []) (rest := []) ⟨hx, hb, hml, hown, hta⟩ (mtXs_close l dC dI q dA H.size M _ hw) (cwV 0 hta (giV wt_161 wt_162 wt_163 wt_1 wt_164) rfl rfl rfl (by decide +kernel) ⟨(Nat.le_of_ble_eq_true rfl), (Nat.le_of_ble_eq_true rfl)⟩) ⟨pW_blind, va_recv hKx (wP_l (wP_r hP)) (ci := 0) (q0 := 0) rfl (wX_0 q dA M), pW_of hKx (wP_l (wP_r hP)) (wD_l (wD_r hD))⟩ rfl rfl hl.1 rfl (lv_room (Nat.le_of_ble_eq_true rfl)) dXl_law_401 ⟨h_187, h_188⟩) hP hD hS hA (fun r_185 M_186 H locs hw hP hD hS => ?_)
                        have hP : va_P (dC, dI) vwCl (wM r dB N ++ wH q dA qo dO (M_186, o)) H := hP
                        have hD : va_D (fun q : Nat => s.heap.size ≤ q) (wM r dB N ++ wH q dA qo dO (M_186, o)) := hD
                        refine lv_pop hx hb dXl_law_404 rfl ?_
                        refine lv_aload_n hx hb dXl_law_405 rfl (lv_at hl 2 rfl) ?_
                        refine cp_i (w := (wM r dB)) (M := N) (suf := wH q dA qo dO (M_186, o)) (wM_ad r dB) (va_runV (As := []) (rest := []) ⟨hx, hb, hml, hown, hta⟩ (mtXm_close l dC dI r dB H.size N _ hw) (cwV 0 hta (giV wt_764 wt_765 wt_766 wt_7 wt_767) rfl rfl rfl (by decide +kernel) ⟨(Nat.le_of_ble_eq_true rfl), (Nat.le_of_ble_eq_true rfl)⟩) ⟨pW_blind, va_recv hKm (wP_l hP) (ci := 5) (q0 := 0) rfl (wM_0 r dB N), pW_of hKm (wP_l hP) (wD_l hD)⟩ rfl rfl hl.1 rfl (lv_room (Nat.le_of_ble_eq_true rfl)) dXl_law_406 ⟨h_187, h_188⟩) hP hD hS hA (fun r_189 M_190 H locs hw hP hD hS => ?_)
                        refine lv_pop hx hb dXl_law_409 rfl ?_
                        refine lv_goto (tgt := 629) hx hb dXl_law_410 (by decide) ?_
                        obtain ⟨x4_191, ex4_191⟩ : ∃ y : Int32, y = x4 + 4 := ⟨_, rfl⟩
                        have hw := hw x4_191 ex4_191
                        refine lv_iinc (v := x4_191) (lv' := [(4, .int x4_191), (0, .ref b), (1, .ref (q 0)), (2, .ref (r 0)), (3, .ref qo)]) hx hb dXl_law_629 hl (k := 4) rfl (by rw [ex4_191]; rfl) (by decide) rfl (fun ls hl => ?_)
                        refine lv_goto (tgt := 23) hx hb dXl_law_632 (by decide) ?_
                        exact ih x4_191 kc ks M_186 M_190 o _ _ _ hw hP hD hS (lv_sub hl [1, 2, 3, 4, 0] rfl)
                      · have hw := hw.2 c_184
                        rcases Classical.em (y_6 = 9) with c_192 | c_192
                        · have hw := hw.1 c_192
                          refine lv_tableIn (tgt := 413) (off := 374) hx hb dXl_law_39 (by rw [c_192]; decide) (by rw [c_192]; decide) (by rw [c_192]; decide) (by decide) ?_
                          refine lv_aload_n hx hb dXl_law_413 rfl (lv_at hl 1 rfl) ?_
                          refine lv_aload_n hx hb dXl_law_414 rfl (lv_at hl 0 rfl) ?_
                          refine lv_iload hx hb dXl_law_415 (lv_at hl 4 rfl) ?_
                          refine lv_iconst (v := 1) hx hb dXl_law_417 (by decide) ?_
                          refine lv_iadd hx hb dXl_law_418 ?_
                          refine lv_topi (fun y_193 ey_193 => ?_)
                          have hw := hw y_193 ey_193
                          obtain ⟨h_194, hw⟩ := hw
                          refine va_sld hx hb hX hbl hbA hS h_194 dXl_law_419 ?_
                          refine lv_topi (fun y_195 ey_195 => ?_)
                          have hw := hw y_195 ey_195
                          refine lv_aload_n hx hb dXl_law_420 rfl (lv_at hl 0 rfl) ?_
                          refine lv_iload hx hb dXl_law_421 (lv_at hl 4 rfl) ?_
                          refine lv_iconst (v := 2) hx hb dXl_law_423 (by decide) ?_
                          refine lv_iadd hx hb dXl_law_424 ?_
                          refine lv_topi (fun y_196 ey_196 => ?_)
                          have hw := hw y_196 ey_196
                          obtain ⟨h_197, hw⟩ := hw
                          refine va_sld hx hb hX hbl hbA hS h_197 dXl_law_425 ?_
                          refine lv_topi (fun y_198 ey_198 => ?_)
                          have hw := hw y_198 ey_198
                          refine lv_aload_n hx hb dXl_law_426 rfl (lv_at hl 3 rfl) ?_
                          obtain ⟨h_200, h_201, hw⟩ := hw
                          refine cq_i (w := (wH q dA qo dO)) (M := (M, o)) (pre := wM r dB N) (wH_ad q dA qo dO) (vx_runSW (As := [.ref (q 0), .int y_195, .int y_198, .ref qo]) (rest := []) ⟨hx, hb, hml, hown, hta⟩ (mtXl_unit l hl9 dC dI q dA qo dO H.size y_195 y_198 M o _ hw) (vx_cwSW 4 hta (giS wt_491 wt_492 wt_0 wt_493) rfl rfl rfl (by decide +kernel) ⟨(Nat.le_of_ble_eq_true rfl), (Nat.le_of_ble_eq_true rfl)⟩) ⟨pWx_blind sL_ok, pWx_of (pre := wM r dB N) (suf := []) sL_ok hKh (wP_r hP) (by rw [List.append_nil]; exact hD) hS hA hZ hsp⟩ rfl rfl hl.1 rfl (lv_room (Nat.le_of_ble_eq_true rfl)) dXl_law_427 ⟨h_200, h_201⟩) hP hD hS hA (fun r_199 u_202 H locs hw hP hD hS => ?_)
                          have hP : va_P (dC, dI) vwCl (wM r dB N ++ wH q dA qo dO (u_202.1, u_202.2)) H := hP
                          have hD : va_D (fun q : Nat => s.heap.size ≤ q) (wM r dB N ++ wH q dA qo dO (u_202.1, u_202.2)) := hD
                          refine lv_istore (lv' := [(5, .int r_199), (0, .ref b), (1, .ref (q 0)), (2, .ref (r 0)), (3, .ref qo), (4, .int x4)]) hx hb dXl_law_430 hl (by decide) rfl (fun ls hl => ?_)
                          refine lv_aload_n hx hb dXl_law_432 rfl (lv_at hl 3 rfl) ?_
                          refine lv_aload_n hx hb dXl_law_433 rfl (lv_at hl 1 rfl) ?_
                          refine lv_iload hx hb dXl_law_434 (lv_at hl 5 rfl) ?_
                          refine lv_iconst (v := 1) hx hb dXl_law_436 (by decide) ?_
                          refine lv_iadd hx hb dXl_law_437 ?_
                          refine lv_topi (fun y_205 ey_205 => ?_)
                          have hw := hw y_205 ey_205
                          obtain ⟨h_206, hw⟩ := hw
                          refine va_sld hx hb hX hbl hbA hS h_206 dXl_law_438 ?_
                          refine lv_topi (fun y_207 ey_207 => ?_)
                          have hw := hw y_207 ey_207
                          refine lv_aload_n hx hb dXl_law_439 rfl (lv_at hl 1 rfl) ?_
                          refine lv_iload hx hb dXl_law_440 (lv_at hl 5 rfl) ?_
                          refine lv_iconst (v := 2) hx hb dXl_law_442 (by decide) ?_
                          refine lv_iadd hx hb dXl_law_443 ?_
                          refine lv_topi (fun y_208 ey_208 => ?_)
                          have hw := hw y_208 ey_208
                          obtain ⟨h_209, hw⟩ := hw
                          refine va_sld hx hb hX hbl hbA hS h_209 dXl_law_444 ?_
                          refine lv_topi (fun y_210 ey_210 => ?_)
                          have hw := hw y_210 ey_210
                          obtain ⟨h_213, h_214, hw⟩ := hw
                          refine cp_i (w := (wM r dB)) (M := N) (suf := wH q dA qo dO (u_202.1, u_202.2)) (wM_ad r dB) (va_runV (As := [.int y_207, .int y_210]) (rest := []) ⟨hx, hb, hml, hown, hta⟩ (mtXm_unit l dC dI r dB H.size y_207 y_210 N _ hw) (cwV 2 hta (giV wt_768 wt_769 wt_770 wt_7 wt_771) rfl rfl rfl (by decide +kernel) ⟨(Nat.le_of_ble_eq_true rfl), (Nat.le_of_ble_eq_true rfl)⟩) ⟨pW_blind, va_recv hKm (wP_l hP) (ci := 5) (q0 := 0) rfl (wM_0 r dB N), pW_of hKm (wP_l hP) (wD_l hD)⟩ rfl rfl hl.1 rfl (lv_room (Nat.le_of_ble_eq_true rfl)) dXl_law_445 ⟨h_213, h_214⟩) hP hD hS hA (fun r_211 M_212 H locs hw hP hD hS => ?_)
                          refine lv_istore (lv' := [(6, .int r_211), (5, .int r_199), (0, .ref b), (1, .ref (q 0)), (2, .ref (r 0)), (3, .ref qo), (4, .int x4)]) hx hb dXl_law_448 hl (by decide) rfl (fun ls hl => ?_)
                          refine lv_goto (tgt := 629) hx hb dXl_law_450 (by decide) ?_
                          obtain ⟨x4_215, ex4_215⟩ : ∃ y : Int32, y = x4 + 4 := ⟨_, rfl⟩
                          have hw := hw x4_215 ex4_215
                          refine lv_iinc (v := x4_215) (lv' := [(4, .int x4_215), (6, .int r_211), (5, .int r_199), (0, .ref b), (1, .ref (q 0)), (2, .ref (r 0)), (3, .ref qo)]) hx hb dXl_law_629 hl (k := 6) rfl (by rw [ex4_215]; rfl) (by decide) rfl (fun ls hl => ?_)
                          refine lv_goto (tgt := 23) hx hb dXl_law_632 (by decide) ?_
                          exact ih x4_215 (kc + 1) (ks + 6) u_202.1 M_212 u_202.2 _ _ _ hw hP hD hS (lv_sub hl [3, 4, 5, 6, 0] rfl)
                        · have hw := hw.2 c_192
                          rcases Classical.em (y_6 = 10) with c_216 | c_216
                          · have hw := hw.1 c_216
                            refine lv_tableIn (tgt := 453) (off := 414) hx hb dXl_law_39 (by rw [c_216]; decide) (by rw [c_216]; decide) (by rw [c_216]; decide) (by decide) ?_
                            refine lv_aload_n hx hb dXl_law_453 rfl (lv_at hl 1 rfl) ?_
                            refine lv_aload_n hx hb dXl_law_454 rfl (lv_at hl 0 rfl) ?_
                            refine lv_iload hx hb dXl_law_455 (lv_at hl 4 rfl) ?_
                            refine lv_iconst (v := 1) hx hb dXl_law_457 (by decide) ?_
                            refine lv_iadd hx hb dXl_law_458 ?_
                            refine lv_topi (fun y_217 ey_217 => ?_)
                            have hw := hw y_217 ey_217
                            obtain ⟨h_218, hw⟩ := hw
                            refine va_sld hx hb hX hbl hbA hS h_218 dXl_law_459 ?_
                            refine lv_topi (fun y_219 ey_219 => ?_)
                            have hw := hw y_219 ey_219
                            refine lv_aload_n hx hb dXl_law_460 rfl (lv_at hl 0 rfl) ?_
                            refine lv_iload hx hb dXl_law_461 (lv_at hl 4 rfl) ?_
                            refine lv_iconst (v := 2) hx hb dXl_law_463 (by decide) ?_
                            refine lv_iadd hx hb dXl_law_464 ?_
                            refine lv_topi (fun y_220 ey_220 => ?_)
                            have hw := hw y_220 ey_220
                            obtain ⟨h_221, hw⟩ := hw
                            refine va_sld hx hb hX hbl hbA hS h_221 dXl_law_465 ?_
                            refine lv_topi (fun y_222 ey_222 => ?_)
                            have hw := hw y_222 ey_222
                            refine lv_aload_n hx hb dXl_law_466 rfl (lv_at hl 3 rfl) ?_
                            obtain ⟨h_224, h_225, hw⟩ := hw
                            refine cq_i (w := (wH q dA qo dO)) (M := (M, o)) (pre := wM r dB N) (wH_ad q dA qo dO) (vx_runSW (As := [.ref (q 0), .int y_219, .int y_222, .ref qo]) (rest := []) ⟨hx, hb, hml, hown, hta⟩ (mtXl_callAt l hl9 dC dI q dA qo dO H.size y_219 y_222 M o _ hw) (vx_cwSW 4 hta (giS wt_500 wt_501 wt_0 wt_502) rfl rfl rfl (by decide +kernel) ⟨(Nat.le_of_ble_eq_true rfl), (Nat.le_of_ble_eq_true rfl)⟩) ⟨pWx_blind sL_ok, pWx_of (pre := wM r dB N) (suf := []) sL_ok hKh (wP_r hP) (by rw [List.append_nil]; exact hD) hS hA hZ hsp⟩ rfl rfl hl.1 rfl (lv_room (Nat.le_of_ble_eq_true rfl)) dXl_law_467 ⟨h_224, h_225⟩) hP hD hS hA (fun r_223 u_226 H locs hw hP hD hS => ?_)
                            have hP : va_P (dC, dI) vwCl (wM r dB N ++ wH q dA qo dO (u_226.1, u_226.2)) H := hP
                            have hD : va_D (fun q : Nat => s.heap.size ≤ q) (wM r dB N ++ wH q dA qo dO (u_226.1, u_226.2)) := hD
                            refine lv_istore (lv' := [(5, .int r_223), (0, .ref b), (1, .ref (q 0)), (2, .ref (r 0)), (3, .ref qo), (4, .int x4)]) hx hb dXl_law_470 hl (by decide) rfl (fun ls hl => ?_)
                            refine lv_aload_n hx hb dXl_law_472 rfl (lv_at hl 3 rfl) ?_
                            refine lv_aload_n hx hb dXl_law_473 rfl (lv_at hl 1 rfl) ?_
                            refine lv_iload hx hb dXl_law_474 (lv_at hl 5 rfl) ?_
                            refine lv_iconst (v := 1) hx hb dXl_law_476 (by decide) ?_
                            refine lv_iadd hx hb dXl_law_477 ?_
                            refine lv_topi (fun y_229 ey_229 => ?_)
                            have hw := hw y_229 ey_229
                            obtain ⟨h_230, hw⟩ := hw
                            refine va_sld hx hb hX hbl hbA hS h_230 dXl_law_478 ?_
                            refine lv_topi (fun y_231 ey_231 => ?_)
                            have hw := hw y_231 ey_231
                            refine lv_aload_n hx hb dXl_law_479 rfl (lv_at hl 1 rfl) ?_
                            refine lv_iload hx hb dXl_law_480 (lv_at hl 5 rfl) ?_
                            refine lv_iconst (v := 2) hx hb dXl_law_482 (by decide) ?_
                            refine lv_iadd hx hb dXl_law_483 ?_
                            refine lv_topi (fun y_232 ey_232 => ?_)
                            have hw := hw y_232 ey_232
                            obtain ⟨h_233, hw⟩ := hw
                            refine va_sld hx hb hX hbl hbA hS h_233 dXl_law_484 ?_
                            refine lv_topi (fun y_234 ey_234 => ?_)
                            have hw := hw y_234 ey_234
                            obtain ⟨h_237, h_238, hw⟩ := hw
                            refine cp_i (w := (wM r dB)) (M := N) (suf := wH q dA qo dO (u_226.1, u_226.2)) (wM_ad r dB) (va_runV (As := [.int y_231, .int y_234]) (rest := []) ⟨hx, hb, hml, hown, hta⟩ (mtXm_callAt l dC dI r dB H.size y_231 y_234 N _ hw) (cwV 2 hta (giV wt_772 wt_773 wt_774 wt_7 wt_775) rfl rfl rfl (by decide +kernel) ⟨(Nat.le_of_ble_eq_true rfl), (Nat.le_of_ble_eq_true rfl)⟩) ⟨pW_blind, va_recv hKm (wP_l hP) (ci := 5) (q0 := 0) rfl (wM_0 r dB N), pW_of hKm (wP_l hP) (wD_l hD)⟩ rfl rfl hl.1 rfl (lv_room (Nat.le_of_ble_eq_true rfl)) dXl_law_485 ⟨h_237, h_238⟩) hP hD hS hA (fun r_235 M_236 H locs hw hP hD hS => ?_)
                            refine lv_istore (lv' := [(6, .int r_235), (5, .int r_223), (0, .ref b), (1, .ref (q 0)), (2, .ref (r 0)), (3, .ref qo), (4, .int x4)]) hx hb dXl_law_488 hl (by decide) rfl (fun ls hl => ?_)
                            refine lv_goto (tgt := 629) hx hb dXl_law_490 (by decide) ?_
                            obtain ⟨x4_239, ex4_239⟩ : ∃ y : Int32, y = x4 + 4 := ⟨_, rfl⟩
                            have hw := hw x4_239 ex4_239
                            refine lv_iinc (v := x4_239) (lv' := [(4, .int x4_239), (6, .int r_235), (5, .int r_223), (0, .ref b), (1, .ref (q 0)), (2, .ref (r 0)), (3, .ref qo)]) hx hb dXl_law_629 hl (k := 6) rfl (by rw [ex4_239]; rfl) (by decide) rfl (fun ls hl => ?_)
                            refine lv_goto (tgt := 23) hx hb dXl_law_632 (by decide) ?_
                            exact ih x4_239 (kc + 1) (ks + 6) u_226.1 M_236 u_226.2 _ _ _ hw hP hD hS (lv_sub hl [3, 4, 5, 6, 0] rfl)
                          · have hw := hw.2 c_216
                            rcases Classical.em (y_6 = 11) with c_240 | c_240
                            · have hw := hw.1 c_240
                              refine lv_tableIn (tgt := 493) (off := 454) hx hb dXl_law_39 (by rw [c_240]; decide) (by rw [c_240]; decide) (by rw [c_240]; decide) (by decide) ?_
                              refine lv_aload_n hx hb dXl_law_493 rfl (lv_at hl 1 rfl) ?_
                              refine lv_aload_n hx hb dXl_law_494 rfl (lv_at hl 0 rfl) ?_
                              refine lv_iload hx hb dXl_law_495 (lv_at hl 4 rfl) ?_
                              refine lv_iconst (v := 1) hx hb dXl_law_497 (by decide) ?_
                              refine lv_iadd hx hb dXl_law_498 ?_
                              refine lv_topi (fun y_241 ey_241 => ?_)
                              have hw := hw y_241 ey_241
                              obtain ⟨h_242, hw⟩ := hw
                              refine va_sld hx hb hX hbl hbA hS h_242 dXl_law_499 ?_
                              refine lv_topi (fun y_243 ey_243 => ?_)
                              have hw := hw y_243 ey_243
                              refine lv_aload_n hx hb dXl_law_500 rfl (lv_at hl 0 rfl) ?_
                              refine lv_iload hx hb dXl_law_501 (lv_at hl 4 rfl) ?_
                              refine lv_iconst (v := 2) hx hb dXl_law_503 (by decide) ?_
                              refine lv_iadd hx hb dXl_law_504 ?_
                              refine lv_topi (fun y_244 ey_244 => ?_)
                              have hw := hw y_244 ey_244
                              obtain ⟨h_245, hw⟩ := hw
                              refine va_sld hx hb hX hbl hbA hS h_245 dXl_law_505 ?_
                              refine lv_topi (fun y_246 ey_246 => ?_)
                              have hw := hw y_246 ey_246
                              refine lv_aload_n hx hb dXl_law_506 rfl (lv_at hl 3 rfl) ?_
                              obtain ⟨h_248, h_249, hw⟩ := hw
                              refine cq_i (w := (wH q dA qo dO)) (M := (M, o)) (pre := wM r dB N) (wH_ad q dA qo dO) (vx_runSW (As := [.ref (q 0), .int y_243, .int y_246, .ref qo]) (rest := []) ⟨hx, hb, hml, hown, hta⟩ (mtXl_thread l hl9 dC dI q dA qo dO H.size y_243 y_246 M o _ hw) (vx_cwSW 4 hta (giS wt_509 wt_510 wt_0 wt_511) rfl rfl rfl (by decide +kernel) ⟨(Nat.le_of_ble_eq_true rfl), (Nat.le_of_ble_eq_true rfl)⟩) ⟨pWx_blind sL_ok, pWx_of (pre := wM r dB N) (suf := []) sL_ok hKh (wP_r hP) (by rw [List.append_nil]; exact hD) hS hA hZ hsp⟩ rfl rfl hl.1 rfl (lv_room (Nat.le_of_ble_eq_true rfl)) dXl_law_507 ⟨h_248, h_249⟩) hP hD hS hA (fun r_247 u_250 H locs hw hP hD hS => ?_)
                              have hP : va_P (dC, dI) vwCl (wM r dB N ++ wH q dA qo dO (u_250.1, u_250.2)) H := hP
                              have hD : va_D (fun q : Nat => s.heap.size ≤ q) (wM r dB N ++ wH q dA qo dO (u_250.1, u_250.2)) := hD
                              refine lv_istore (lv' := [(5, .int r_247), (0, .ref b), (1, .ref (q 0)), (2, .ref (r 0)), (3, .ref qo), (4, .int x4)]) hx hb dXl_law_510 hl (by decide) rfl (fun ls hl => ?_)
                              refine lv_aload_n hx hb dXl_law_512 rfl (lv_at hl 3 rfl) ?_
                              refine lv_aload_n hx hb dXl_law_513 rfl (lv_at hl 1 rfl) ?_
                              refine lv_iload hx hb dXl_law_514 (lv_at hl 5 rfl) ?_
                              refine lv_iconst (v := 1) hx hb dXl_law_516 (by decide) ?_
                              refine lv_iadd hx hb dXl_law_517 ?_
                              refine lv_topi (fun y_253 ey_253 => ?_)
                              have hw := hw y_253 ey_253
                              obtain ⟨h_254, hw⟩ := hw
                              refine va_sld hx hb hX hbl hbA hS h_254 dXl_law_518 ?_
                              refine lv_topi (fun y_255 ey_255 => ?_)
                              have hw := hw y_255 ey_255
                              refine lv_aload_n hx hb dXl_law_519 rfl (lv_at hl 1 rfl) ?_
                              refine lv_iload hx hb dXl_law_520 (lv_at hl 5 rfl) ?_
                              refine lv_iconst (v := 2) hx hb dXl_law_522 (by decide) ?_
                              refine lv_iadd hx hb dXl_law_523 ?_
                              refine lv_topi (fun y_256 ey_256 => ?_)
                              have hw := hw y_256 ey_256
                              obtain ⟨h_257, hw⟩ := hw
                              refine va_sld hx hb hX hbl hbA hS h_257 dXl_law_524 ?_
                              refine lv_topi (fun y_258 ey_258 => ?_)
                              have hw := hw y_258 ey_258
                              obtain ⟨h_261, h_262, hw⟩ := hw
                              refine cp_i (w := (wM r dB)) (M := N) (suf := wH q dA qo dO (u_250.1, u_250.2)) (wM_ad r dB) (va_runV (As := [.int y_255, .int y_258]) (rest := []) ⟨hx, hb, hml, hown, hta⟩ (mtXm_thread l dC dI r dB H.size y_255 y_258 N _ hw) (cwV 2 hta (giV wt_776 wt_777 wt_778 wt_7 wt_779) rfl rfl rfl (by decide +kernel) ⟨(Nat.le_of_ble_eq_true rfl), (Nat.le_of_ble_eq_true rfl)⟩) ⟨pW_blind, va_recv hKm (wP_l hP) (ci := 5) (q0 := 0) rfl (wM_0 r dB N), pW_of hKm (wP_l hP) (wD_l hD)⟩ rfl rfl hl.1 rfl (lv_room (Nat.le_of_ble_eq_true rfl)) dXl_law_525 ⟨h_261, h_262⟩) hP hD hS hA (fun r_259 M_260 H locs hw hP hD hS => ?_)
                              refine lv_istore (lv' := [(6, .int r_259), (5, .int r_247), (0, .ref b), (1, .ref (q 0)), (2, .ref (r 0)), (3, .ref qo), (4, .int x4)]) hx hb dXl_law_528 hl (by decide) rfl (fun ls hl => ?_)
                              refine lv_goto (tgt := 629) hx hb dXl_law_530 (by decide) ?_
                              obtain ⟨x4_263, ex4_263⟩ : ∃ y : Int32, y = x4 + 4 := ⟨_, rfl⟩
                              have hw := hw x4_263 ex4_263
                              refine lv_iinc (v := x4_263) (lv' := [(4, .int x4_263), (6, .int r_259), (5, .int r_247), (0, .ref b), (1, .ref (q 0)), (2, .ref (r 0)), (3, .ref qo)]) hx hb dXl_law_629 hl (k := 6) rfl (by rw [ex4_263]; rfl) (by decide) rfl (fun ls hl => ?_)
                              refine lv_goto (tgt := 23) hx hb dXl_law_632 (by decide) ?_
                              exact ih x4_263 (kc + 1) (ks + 6) u_250.1 M_260 u_250.2 _ _ _ hw hP hD hS (lv_sub hl [3, 4, 5, 6, 0] rfl)
                            · have hw := hw.2 c_240
                              rcases Classical.em (y_6 = 12) with c_264 | c_264
                              · have hw := hw.1 c_264
                                refine lv_tableIn (tgt := 533) (off := 494) hx hb dXl_law_39 (by rw [c_264]; decide) (by rw [c_264]; decide) (by rw [c_264]; decide) (by decide) ?_
                                refine lv_aload_n hx hb dXl_law_533 rfl (lv_at hl 1 rfl) ?_
                                refine lv_aload_n hx hb dXl_law_534 rfl (lv_at hl 0 rfl) ?_
                                refine lv_iload hx hb dXl_law_535 (lv_at hl 4 rfl) ?_
                                refine lv_iconst (v := 1) hx hb dXl_law_537 (by decide) ?_
                                refine lv_iadd hx hb dXl_law_538 ?_
                                refine lv_topi (fun y_265 ey_265 => ?_)
                                have hw := hw y_265 ey_265
                                obtain ⟨h_266, hw⟩ := hw
                                refine va_sld hx hb hX hbl hbA hS h_266 dXl_law_539 ?_
                                refine lv_topi (fun y_267 ey_267 => ?_)
                                have hw := hw y_267 ey_267
                                refine lv_aload_n hx hb dXl_law_540 rfl (lv_at hl 0 rfl) ?_
                                refine lv_iload hx hb dXl_law_541 (lv_at hl 4 rfl) ?_
                                refine lv_iconst (v := 2) hx hb dXl_law_543 (by decide) ?_
                                refine lv_iadd hx hb dXl_law_544 ?_
                                refine lv_topi (fun y_268 ey_268 => ?_)
                                have hw := hw y_268 ey_268
                                obtain ⟨h_269, hw⟩ := hw
                                refine va_sld hx hb hX hbl hbA hS h_269 dXl_law_545 ?_
                                refine lv_topi (fun y_270 ey_270 => ?_)
                                have hw := hw y_270 ey_270
                                refine lv_aload_n hx hb dXl_law_546 rfl (lv_at hl 3 rfl) ?_
                                obtain ⟨h_272, h_273, hw⟩ := hw
                                refine cq_i (w := (wH q dA qo dO)) (M := (M, o)) (pre := wM r dB N) (wH_ad q dA qo dO) (vx_runSW (As := [.ref (q 0), .int y_267, .int y_270, .ref qo]) (rest := []) ⟨hx, hb, hml, hown, hta⟩ (mtXl_row l hl9 dC dI q dA qo dO H.size y_267 y_270 M o _ hw) (vx_cwSW 4 hta (giS wt_521 wt_522 wt_0 wt_523) rfl rfl rfl (by decide +kernel) ⟨(Nat.le_of_ble_eq_true rfl), (Nat.le_of_ble_eq_true rfl)⟩) ⟨pWx_blind sL_ok, pWx_of (pre := wM r dB N) (suf := []) sL_ok hKh (wP_r hP) (by rw [List.append_nil]; exact hD) hS hA hZ hsp⟩ rfl rfl hl.1 rfl (lv_room (Nat.le_of_ble_eq_true rfl)) dXl_law_547 ⟨h_272, h_273⟩) hP hD hS hA (fun r_271 u_274 H locs hw hP hD hS => ?_)
                                have hP : va_P (dC, dI) vwCl (wM r dB N ++ wH q dA qo dO (u_274.1, u_274.2)) H := hP
                                have hD : va_D (fun q : Nat => s.heap.size ≤ q) (wM r dB N ++ wH q dA qo dO (u_274.1, u_274.2)) := hD
                                refine lv_istore (lv' := [(5, .int r_271), (0, .ref b), (1, .ref (q 0)), (2, .ref (r 0)), (3, .ref qo), (4, .int x4)]) hx hb dXl_law_550 hl (by decide) rfl (fun ls hl => ?_)
                                refine lv_aload_n hx hb dXl_law_552 rfl (lv_at hl 3 rfl) ?_
                                refine lv_aload_n hx hb dXl_law_553 rfl (lv_at hl 1 rfl) ?_
                                refine lv_iload hx hb dXl_law_554 (lv_at hl 5 rfl) ?_
                                refine lv_iconst (v := 1) hx hb dXl_law_556 (by decide) ?_
                                refine lv_iadd hx hb dXl_law_557 ?_
                                refine lv_topi (fun y_277 ey_277 => ?_)
                                have hw := hw y_277 ey_277
                                obtain ⟨h_278, hw⟩ := hw
                                refine va_sld hx hb hX hbl hbA hS h_278 dXl_law_558 ?_
                                refine lv_topi (fun y_279 ey_279 => ?_)
                                have hw := hw y_279 ey_279
                                refine lv_aload_n hx hb dXl_law_559 rfl (lv_at hl 1 rfl) ?_
                                refine lv_iload hx hb dXl_law_560 (lv_at hl 5 rfl) ?_
                                refine lv_iconst (v := 2) hx hb dXl_law_562 (by decide) ?_
                                refine lv_iadd hx hb dXl_law_563 ?_
                                refine lv_topi (fun y_280 ey_280 => ?_)
                                have hw := hw y_280 ey_280
                                obtain ⟨h_281, hw⟩ := hw
                                refine va_sld hx hb hX hbl hbA hS h_281 dXl_law_564 ?_
                                refine lv_topi (fun y_282 ey_282 => ?_)
                                have hw := hw y_282 ey_282
                                obtain ⟨h_285, h_286, hw⟩ := hw
                                refine cp_i (w := (wM r dB)) (M := N) (suf := wH q dA qo dO (u_274.1, u_274.2)) (wM_ad r dB) (va_runV (As := [.int y_279, .int y_282]) (rest := []) ⟨hx, hb, hml, hown, hta⟩ (mtXm_row l dC dI r dB H.size y_279 y_282 N _ hw) (cwV 2 hta (giV wt_780 wt_781 wt_782 wt_7 wt_783) rfl rfl rfl (by decide +kernel) ⟨(Nat.le_of_ble_eq_true rfl), (Nat.le_of_ble_eq_true rfl)⟩) ⟨pW_blind, va_recv hKm (wP_l hP) (ci := 5) (q0 := 0) rfl (wM_0 r dB N), pW_of hKm (wP_l hP) (wD_l hD)⟩ rfl rfl hl.1 rfl (lv_room (Nat.le_of_ble_eq_true rfl)) dXl_law_565 ⟨h_285, h_286⟩) hP hD hS hA (fun r_283 M_284 H locs hw hP hD hS => ?_)
                                refine lv_istore (lv' := [(6, .int r_283), (5, .int r_271), (0, .ref b), (1, .ref (q 0)), (2, .ref (r 0)), (3, .ref qo), (4, .int x4)]) hx hb dXl_law_568 hl (by decide) rfl (fun ls hl => ?_)
                                refine lv_goto (tgt := 629) hx hb dXl_law_570 (by decide) ?_
                                obtain ⟨x4_287, ex4_287⟩ : ∃ y : Int32, y = x4 + 4 := ⟨_, rfl⟩
                                have hw := hw x4_287 ex4_287
                                refine lv_iinc (v := x4_287) (lv' := [(4, .int x4_287), (6, .int r_283), (5, .int r_271), (0, .ref b), (1, .ref (q 0)), (2, .ref (r 0)), (3, .ref qo)]) hx hb dXl_law_629 hl (k := 6) rfl (by rw [ex4_287]; rfl) (by decide) rfl (fun ls hl => ?_)
                                refine lv_goto (tgt := 23) hx hb dXl_law_632 (by decide) ?_
                                exact ih x4_287 (kc + 1) (ks + 6) u_274.1 M_284 u_274.2 _ _ _ hw hP hD hS (lv_sub hl [3, 4, 5, 6, 0] rfl)
                              · have hw := hw.2 c_264
                                rcases Classical.em (y_6 = 13) with c_288 | c_288
                                · have hw := hw.1 c_288
                                  refine lv_tableIn (tgt := 573) (off := 534) hx hb dXl_law_39 (by rw [c_288]; decide) (by rw [c_288]; decide) (by rw [c_288]; decide) (by decide) ?_
                                  refine lv_aload_n hx hb dXl_law_573 rfl (lv_at hl 1 rfl) ?_
                                  refine lv_aload_n hx hb dXl_law_574 rfl (lv_at hl 0 rfl) ?_
                                  refine lv_iload hx hb dXl_law_575 (lv_at hl 4 rfl) ?_
                                  refine lv_iconst (v := 1) hx hb dXl_law_577 (by decide) ?_
                                  refine lv_iadd hx hb dXl_law_578 ?_
                                  refine lv_topi (fun y_289 ey_289 => ?_)
                                  have hw := hw y_289 ey_289
                                  obtain ⟨h_290, hw⟩ := hw
                                  refine va_sld hx hb hX hbl hbA hS h_290 dXl_law_579 ?_
                                  refine lv_topi (fun y_291 ey_291 => ?_)
                                  have hw := hw y_291 ey_291
                                  refine lv_aload_n hx hb dXl_law_580 rfl (lv_at hl 3 rfl) ?_
                                  obtain ⟨h_293, h_294, hw⟩ := hw
                                  refine cq_i (w := (wH q dA qo dO)) (M := (M, o)) (pre := wM r dB N) (wH_ad q dA qo dO) (vx_runSW (As := [.ref (q 0), .int y_291, .ref qo]) (rest := []) ⟨hx, hb, hml, hown, hta⟩ (mtXl_count l hl9 dC dI q dA qo dO H.size y_291 M o _ hw) (vx_cwSW 3 hta (giS wt_534 wt_535 wt_0 wt_536) rfl rfl rfl (by decide +kernel) ⟨(Nat.le_of_ble_eq_true rfl), (Nat.le_of_ble_eq_true rfl)⟩) ⟨pWx_blind sL_ok, pWx_of (pre := wM r dB N) (suf := []) sL_ok hKh (wP_r hP) (by rw [List.append_nil]; exact hD) hS hA hZ hsp⟩ rfl rfl hl.1 rfl (lv_room (Nat.le_of_ble_eq_true rfl)) dXl_law_581 ⟨h_293, h_294⟩) hP hD hS hA (fun r_292 u_295 H locs hw hP hD hS => ?_)
                                  have hP : va_P (dC, dI) vwCl (wM r dB N ++ wH q dA qo dO (u_295.1, u_295.2)) H := hP
                                  have hD : va_D (fun q : Nat => s.heap.size ≤ q) (wM r dB N ++ wH q dA qo dO (u_295.1, u_295.2)) := hD
                                  refine lv_istore (lv' := [(5, .int r_292), (0, .ref b), (1, .ref (q 0)), (2, .ref (r 0)), (3, .ref qo), (4, .int x4)]) hx hb dXl_law_584 hl (by decide) rfl (fun ls hl => ?_)
                                  refine lv_aload_n hx hb dXl_law_586 rfl (lv_at hl 3 rfl) ?_
                                  refine lv_aload_n hx hb dXl_law_587 rfl (lv_at hl 1 rfl) ?_
                                  refine lv_iload hx hb dXl_law_588 (lv_at hl 5 rfl) ?_
                                  refine lv_iconst (v := 1) hx hb dXl_law_590 (by decide) ?_
                                  refine lv_iadd hx hb dXl_law_591 ?_
                                  refine lv_topi (fun y_298 ey_298 => ?_)
                                  have hw := hw y_298 ey_298
                                  obtain ⟨h_299, hw⟩ := hw
                                  refine va_sld hx hb hX hbl hbA hS h_299 dXl_law_592 ?_
                                  refine lv_topi (fun y_300 ey_300 => ?_)
                                  have hw := hw y_300 ey_300
                                  obtain ⟨h_303, h_304, hw⟩ := hw
                                  refine cp_i (w := (wM r dB)) (M := N) (suf := wH q dA qo dO (u_295.1, u_295.2)) (wM_ad r dB) (va_runV (As := [.int y_300]) (rest := []) ⟨hx, hb, hml, hown, hta⟩ (mtXm_count l dC dI r dB H.size y_300 N _ hw) (cwV 1 hta (giV wt_784 wt_785 wt_786 wt_7 wt_787) rfl rfl rfl (by decide +kernel) ⟨(Nat.le_of_ble_eq_true rfl), (Nat.le_of_ble_eq_true rfl)⟩) ⟨pW_blind, va_recv hKm (wP_l hP) (ci := 5) (q0 := 0) rfl (wM_0 r dB N), pW_of hKm (wP_l hP) (wD_l hD)⟩ rfl rfl hl.1 rfl (lv_room (Nat.le_of_ble_eq_true rfl)) dXl_law_593 ⟨h_303, h_304⟩) hP hD hS hA (fun r_301 M_302 H locs hw hP hD hS => ?_)
                                  refine lv_istore (lv' := [(6, .int r_301), (5, .int r_292), (0, .ref b), (1, .ref (q 0)), (2, .ref (r 0)), (3, .ref qo), (4, .int x4)]) hx hb dXl_law_596 hl (by decide) rfl (fun ls hl => ?_)
                                  refine lv_aload_n hx hb dXl_law_598 rfl (lv_at hl 4 rfl) ?_
                                  refine cp_i (w := (wM r dB)) (M := M_302) (suf := wH q dA qo dO (u_295.1, u_295.2)) (wM_ad r dB) (va_runV (As := []) (rest := []) ⟨hx, hb, hml, hown, hta⟩ (mtXm_thrown l dC dI r dB H.size M_302 _ hw) (cwV 0 hta (giV wt_650 wt_651 wt_652 wt_7 wt_653) rfl rfl rfl (by decide +kernel) ⟨(Nat.le_of_ble_eq_true rfl), (Nat.le_of_ble_eq_true rfl)⟩) ⟨pW_blind, va_recv hKm (wP_l hP) (ci := 5) (q0 := 0) rfl (wM_0 r dB M_302), pW_of hKm (wP_l hP) (wD_l hD)⟩ rfl rfl hl.1 rfl (lv_room (Nat.le_of_ble_eq_true rfl)) dXl_law_599 ⟨h_303, h_304⟩) hP hD hS hA (fun r_305 M_306 H locs hw hP hD hS => ?_)
                                  refine lv_iload hx hb dXl_law_602 (lv_at hl 1 rfl) ?_
                                  refine lv_icmp_eq (tgt := 609) hx hb dXl_law_604 (by decide) (fun c_307 => ?_) (fun c_307 => ?_)
                                  · have hw := hw.1 c_307
                                    refine lv_iload hx hb dXl_law_609 (lv_at hl 1 rfl) ?_
                                    refine lv_if_ne (tgt := 626) hx hb dXl_law_611 (by decide) (fun c_308 => ?_) (fun c_308 => ?_)
                                    · have hw := hw.2 c_308
                                      refine lv_goto (tgt := 629) hx hb dXl_law_626 (by decide) ?_
                                      obtain ⟨x4_309, ex4_309⟩ : ∃ y : Int32, y = x4 + 4 := ⟨_, rfl⟩
                                      have hw := hw x4_309 ex4_309
                                      refine lv_iinc (v := x4_309) (lv' := [(4, .int x4_309), (6, .int r_301), (5, .int r_292), (0, .ref b), (1, .ref (q 0)), (2, .ref (r 0)), (3, .ref qo)]) hx hb dXl_law_629 hl (k := 6) rfl (by rw [ex4_309]; rfl) (by decide) rfl (fun ls hl => ?_)
                                      refine lv_goto (tgt := 23) hx hb dXl_law_632 (by decide) ?_
                                      exact ih x4_309 (kc + 1) (ks + 6) u_295.1 M_306 u_295.2 _ _ _ hw hP hD hS (lv_sub hl [3, 4, 5, 6, 0] rfl)
                                    · have hw := hw.1 c_308
                                      refine lv_aload_n hx hb dXl_law_614 rfl (lv_at hl 5 rfl) ?_
                                      refine lv_iconst (v := 0) hx hb dXl_law_615 (by decide) ?_
                                      refine va_lald hx hb hK hP 51 45 rfl rfl (by unfold vp_in; decide) dXl_law_616 ?_
                                      refine lv_topl (x := u_295.2 0) (fun y_311 ey_311 => ?_)
                                      have hw := hw y_311 ey_311
                                      refine lv_iload hx hb dXl_law_617 (lv_at hl 0 rfl) ?_
                                      refine lv_i2l hx hb dXl_law_619 rfl ?_
                                      refine lv_topl (fun y_312 ey_312 => ?_)
                                      have hw := hw y_312 ey_312
                                      refine W.lcmp hx hb dXl_law_620 ?_
                                      refine lv_topi (fun y_313 ey_313 => ?_)
                                      have hw := hw y_313 ey_313
                                      refine lv_if_eq (tgt := 626) hx hb dXl_law_621 (by decide) (fun c_314 => ?_) (fun c_314 => ?_)
                                      · have hw := hw.1 c_314
                                        refine lv_goto (tgt := 629) hx hb dXl_law_626 (by decide) ?_
                                        obtain ⟨x4_315, ex4_315⟩ : ∃ y : Int32, y = x4 + 4 := ⟨_, rfl⟩
                                        have hw := hw x4_315 ex4_315
                                        refine lv_iinc (v := x4_315) (lv' := [(4, .int x4_315), (6, .int r_301), (5, .int r_292), (0, .ref b), (1, .ref (q 0)), (2, .ref (r 0)), (3, .ref qo)]) hx hb dXl_law_629 hl (k := 6) rfl (by rw [ex4_315]; rfl) (by decide) rfl (fun ls hl => ?_)
                                        refine lv_goto (tgt := 23) hx hb dXl_law_632 (by decide) ?_
                                        exact ih x4_315 (kc + 1) (ks + 6) u_295.1 M_306 u_295.2 _ _ _ hw hP hD hS (lv_sub hl [3, 4, 5, 6, 0] rfl)
                                      · have hw := hw.2 c_314
                                        refine lv_iconst (v := 0) hx hb dXl_law_624 (by decide) ?_
                                        exact False.elim hw
                                  · have hw := hw.2 c_307
                                    refine lv_iconst (v := 0) hx hb dXl_law_607 (by decide) ?_
                                    exact False.elim hw
                                · have hw := hw.2 c_288
                                  refine lv_tableOut (tgt := 629) hx hb dXl_law_39 (by have n0 := lv_neT c_8 (show (0 : Int32).toInt = 0 by decide); have n1 := lv_neT c_38 (show (1 : Int32).toInt = 1 by decide); have n2 := lv_neT c_60 (show (2 : Int32).toInt = 2 by decide); have n3 := lv_neT c_78 (show (3 : Int32).toInt = 3 by decide); have n4 := lv_neT c_96 (show (4 : Int32).toInt = 4 by decide); have n5 := lv_neT c_136 (show (5 : Int32).toInt = 5 by decide); have n6 := lv_neT c_152 (show (6 : Int32).toInt = 6 by decide); have n7 := lv_neT c_168 (show (7 : Int32).toInt = 7 by decide); have n8 := lv_neT c_184 (show (8 : Int32).toInt = 8 by decide); have n9 := lv_neT c_192 (show (9 : Int32).toInt = 9 by decide); have n10 := lv_neT c_216 (show (10 : Int32).toInt = 10 by decide); have n11 := lv_neT c_240 (show (11 : Int32).toInt = 11 by decide); have n12 := lv_neT c_264 (show (12 : Int32).toInt = 12 by decide); have n13 := lv_neT c_288 (show (13 : Int32).toInt = 13 by decide); omega) (by decide) ?_
                                  obtain ⟨x4_316, ex4_316⟩ : ∃ y : Int32, y = x4 + 4 := ⟨_, rfl⟩
                                  have hw := hw x4_316 ex4_316
                                  refine lv_iinc (v := x4_316) (lv' := [(4, .int x4_316), (0, .ref b), (1, .ref (q 0)), (2, .ref (r 0)), (3, .ref qo)]) hx hb dXl_law_629 hl (k := 4) rfl (by rw [ex4_316]; rfl) (by decide) rfl (fun ls hl => ?_)
                                  refine lv_goto (tgt := 23) hx hb dXl_law_632 (by decide) ?_
                                  exact ih x4_316 kc ks M N o _ _ _ hw hP hD hS (lv_sub hl [1, 2, 3, 4, 0] rfl)
