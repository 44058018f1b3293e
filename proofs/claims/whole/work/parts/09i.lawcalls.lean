section LAWC
variable {p : Program} {l : Launch} {e : Env} {s : State} {m : MethodId} {args : Array Value} {below : List Frame} {meth : Method} {c : Code} {D : va_G} {cB cI cZ : ClassId} {A : Nat → Prop} {Q : State → Prop} {ad bd : Nat → Nat} {b L : Nat} {xs : Nat → Int32} {i : Int32} {z y : Sg}
set_option maxHeartbeats 4000000 in
set_option maxRecDepth 100000 in
theorem law_c0 (X : Cx p s m args meth c cL_law 4 ret RL wsL_law D (tyL cB cI cZ) A) (S : Sx b L xs s A i) (K : ∀ z2 y2, Rel z2 y2 → WG p l e room_1 s m args below meth c 4 D A Q (cW ad cB cI cZ z2 ++ mW bd cB cI cZ y2) 41 3668 907 (lv4 b (ad 0) (bd 0) i) []) (hR : Rel z y) : WG p l e room_1 s m args below meth c 4 D A Q (cW ad cB cI cZ z ++ mW bd cB cI cZ y) 41 3668 124 (lv4 b (ad 0) (bd 0) i) [] := by
  refine wg_aload_n X dL_law_124 1 rfl ?_
  refine wg_arg X S dL_law_125 dL_law_126 dL_law_127 (v := 1) (by decide) dL_law_128 dL_law_129 (by decide) (by decide) ?_
  refine wg_arg X S dL_law_130 dL_law_131 dL_law_132 (v := 2) (by decide) dL_law_133 dL_law_134 (by decide) (by decide) ?_
  refine wg_arg X S dL_law_135 dL_law_136 dL_law_137 (v := 3) (by decide) dL_law_138 dL_law_139 (by decide) (by decide) ?_
  refine wg_arg X S dL_law_140 dL_law_141 dL_law_142 (v := 4) (by decide) dL_law_143 dL_law_144 (by decide) (by decide) ?_
  refine wg_arg X S dL_law_145 dL_law_146 dL_law_147 (v := 5) (by decide) dL_law_148 dL_law_149 (by decide) (by decide) ?_
  refine law_x X (As := [.int (rd xs i 1), .int (rd xs i 2), .int (rd xs i 3), .int (rd xs i 4), .int (rd xs i 5)]) (st := []) (kX4_feed l D ad cB cI cZ _ _ _ _ _ z _ (r_feed hR _ _ _ _ _)) (cwV 5 X.hts gL_law_X4_feed rfl rfl rfl ⟨rfl, hn_X4_feed⟩ ⟨Nat.le_of_ble_eq_true rfl, Nat.le_of_ble_eq_true rfl⟩) rfl rfl (Nat.le_of_ble_eq_true rfl) dL_law_150 ⟨Nat.le_of_ble_eq_true rfl, Nat.le_of_ble_eq_true rfl⟩ (fun r u hp => ?_)
  refine wg_aload_n X dL_law_153 2 rfl ?_
  refine wg_arg X S dL_law_154 dL_law_155 dL_law_156 (v := 1) (by decide) dL_law_157 dL_law_158 (by decide) (by decide) ?_
  refine wg_arg X S dL_law_159 dL_law_160 dL_law_161 (v := 2) (by decide) dL_law_162 dL_law_163 (by decide) (by decide) ?_
  refine wg_arg X S dL_law_164 dL_law_165 dL_law_166 (v := 3) (by decide) dL_law_167 dL_law_168 (by decide) (by decide) ?_
  refine wg_arg X S dL_law_169 dL_law_170 dL_law_171 (v := 4) (by decide) dL_law_172 dL_law_173 (by decide) (by decide) ?_
  refine wg_arg X S dL_law_174 dL_law_175 dL_law_176 (v := 5) (by decide) dL_law_177 dL_law_178 (by decide) (by decide) ?_
  refine law_m X (As := [.int (rd xs i 1), .int (rd xs i 2), .int (rd xs i 3), .int (rd xs i 4), .int (rd xs i 5)]) (st := [.int r]) (kX5_feed l D bd cB cI cZ _ _ _ _ _ y _ hp) (cwV 5 X.hts gL_law_X5_feed rfl rfl rfl ⟨rfl, hn_X5_feed⟩ ⟨Nat.le_of_ble_eq_true rfl, Nat.le_of_ble_eq_true rfl⟩) rfl rfl (Nat.le_of_ble_eq_true rfl) dL_law_179 ⟨Nat.le_of_ble_eq_true rfl, Nat.le_of_ble_eq_true rfl⟩ (fun r2 u2 hq => ?_)
  exact wg_icmp_eq X (tgt := 907) dL_law_182 (by decide) (fun _ => K u u2 hq.2) (fun h => absurd hq.1 h)
set_option maxHeartbeats 4000000 in
set_option maxRecDepth 100000 in
theorem law_c1 (X : Cx p s m args meth c cL_law 4 ret RL wsL_law D (tyL cB cI cZ) A) (S : Sx b L xs s A i) (K : ∀ z2 y2, Rel z2 y2 → WG p l e room_1 s m args below meth c 4 D A Q (cW ad cB cI cZ z2 ++ mW bd cB cI cZ y2) 41 3668 907 (lv4 b (ad 0) (bd 0) i) []) (hR : Rel z y) : WG p l e room_1 s m args below meth c 4 D A Q (cW ad cB cI cZ z ++ mW bd cB cI cZ y) 41 3668 187 (lv4 b (ad 0) (bd 0) i) [] := by
  refine wg_aload_n X dL_law_187 1 rfl ?_
  refine wg_arg X S dL_law_188 dL_law_189 dL_law_190 (v := 1) (by decide) dL_law_191 dL_law_192 (by decide) (by decide) ?_
  refine law_x X (As := [.int (rd xs i 1)]) (st := []) (kX4_rules l D ad cB cI cZ _ z _ (r_rules hR _)) (cwV 1 X.hts gL_law_X4_rules rfl rfl rfl ⟨rfl, hn_X4_rules⟩ ⟨Nat.le_of_ble_eq_true rfl, Nat.le_of_ble_eq_true rfl⟩) rfl rfl (Nat.le_of_ble_eq_true rfl) dL_law_193 ⟨Nat.le_of_ble_eq_true rfl, Nat.le_of_ble_eq_true rfl⟩ (fun r u hp => ?_)
  refine wg_aload_n X dL_law_196 2 rfl ?_
  refine wg_arg X S dL_law_197 dL_law_198 dL_law_199 (v := 1) (by decide) dL_law_200 dL_law_201 (by decide) (by decide) ?_
  refine law_m X (As := [.int (rd xs i 1)]) (st := [.int r]) (kX5_rules l D bd cB cI cZ _ y _ hp) (cwV 1 X.hts gL_law_X5_rules rfl rfl rfl ⟨rfl, hn_X5_rules⟩ ⟨Nat.le_of_ble_eq_true rfl, Nat.le_of_ble_eq_true rfl⟩) rfl rfl (Nat.le_of_ble_eq_true rfl) dL_law_202 ⟨Nat.le_of_ble_eq_true rfl, Nat.le_of_ble_eq_true rfl⟩ (fun r2 u2 hq => ?_)
  exact wg_icmp_eq X (tgt := 907) dL_law_205 (by decide) (fun _ => K u u2 hq.2) (fun h => absurd hq.1 h)
set_option maxHeartbeats 4000000 in
set_option maxRecDepth 100000 in
theorem law_c2 (X : Cx p s m args meth c cL_law 4 ret RL wsL_law D (tyL cB cI cZ) A) (S : Sx b L xs s A i) (K : ∀ z2 y2, Rel z2 y2 → WG p l e room_1 s m args below meth c 4 D A Q (cW ad cB cI cZ z2 ++ mW bd cB cI cZ y2) 41 3668 907 (lv4 b (ad 0) (bd 0) i) []) (hR : Rel z y) : WG p l e room_1 s m args below meth c 4 D A Q (cW ad cB cI cZ z ++ mW bd cB cI cZ y) 41 3668 210 (lv4 b (ad 0) (bd 0) i) [] := by
  refine wg_aload_n X dL_law_210 1 rfl ?_
  refine wg_arg X S dL_law_211 dL_law_212 dL_law_213 (v := 1) (by decide) dL_law_214 dL_law_215 (by decide) (by decide) ?_
  refine law_x X (As := [.int (rd xs i 1)]) (st := []) (kX4_rule l D ad cB cI cZ _ z _ (r_rule hR _)) (cwV 1 X.hts gL_law_X4_rule rfl rfl rfl ⟨rfl, hn_X4_rule⟩ ⟨Nat.le_of_ble_eq_true rfl, Nat.le_of_ble_eq_true rfl⟩) rfl rfl (Nat.le_of_ble_eq_true rfl) dL_law_216 ⟨Nat.le_of_ble_eq_true rfl, Nat.le_of_ble_eq_true rfl⟩ (fun r u hp => ?_)
  refine wg_aload_n X dL_law_219 2 rfl ?_
  refine wg_arg X S dL_law_220 dL_law_221 dL_law_222 (v := 1) (by decide) dL_law_223 dL_law_224 (by decide) (by decide) ?_
  refine law_m X (As := [.int (rd xs i 1)]) (st := [.int r]) (kX5_rule l D bd cB cI cZ _ y _ hp) (cwV 1 X.hts gL_law_X5_rule rfl rfl rfl ⟨rfl, hn_X5_rule⟩ ⟨Nat.le_of_ble_eq_true rfl, Nat.le_of_ble_eq_true rfl⟩) rfl rfl (Nat.le_of_ble_eq_true rfl) dL_law_225 ⟨Nat.le_of_ble_eq_true rfl, Nat.le_of_ble_eq_true rfl⟩ (fun r2 u2 hq => ?_)
  exact wg_icmp_eq X (tgt := 907) dL_law_228 (by decide) (fun _ => K u u2 hq.2) (fun h => absurd hq.1 h)
set_option maxHeartbeats 4000000 in
set_option maxRecDepth 100000 in
theorem law_c3 (X : Cx p s m args meth c cL_law 4 ret RL wsL_law D (tyL cB cI cZ) A) (S : Sx b L xs s A i) (K : ∀ z2 y2, Rel z2 y2 → WG p l e room_1 s m args below meth c 4 D A Q (cW ad cB cI cZ z2 ++ mW bd cB cI cZ y2) 41 3668 907 (lv4 b (ad 0) (bd 0) i) []) (hR : Rel z y) : WG p l e room_1 s m args below meth c 4 D A Q (cW ad cB cI cZ z ++ mW bd cB cI cZ y) 41 3668 233 (lv4 b (ad 0) (bd 0) i) [] := by
  refine wg_aload_n X dL_law_233 1 rfl ?_
  refine wg_arg X S dL_law_234 dL_law_235 dL_law_236 (v := 1) (by decide) dL_law_237 dL_law_238 (by decide) (by decide) ?_
  refine law_x X (As := [.int (rd xs i 1)]) (st := []) (kX4_jumper l D ad cB cI cZ _ z _ (r_jumper hR _)) (cwV 1 X.hts gL_law_X4_jumper rfl rfl rfl ⟨rfl, hn_X4_jumper⟩ ⟨Nat.le_of_ble_eq_true rfl, Nat.le_of_ble_eq_true rfl⟩) rfl rfl (Nat.le_of_ble_eq_true rfl) dL_law_239 ⟨Nat.le_of_ble_eq_true rfl, Nat.le_of_ble_eq_true rfl⟩ (fun r u hp => ?_)
  refine wg_aload_n X dL_law_242 2 rfl ?_
  refine wg_arg X S dL_law_243 dL_law_244 dL_law_245 (v := 1) (by decide) dL_law_246 dL_law_247 (by decide) (by decide) ?_
  refine law_m X (As := [.int (rd xs i 1)]) (st := [.int r]) (kX5_jumper l D bd cB cI cZ _ y _ hp) (cwV 1 X.hts gL_law_X5_jumper rfl rfl rfl ⟨rfl, hn_X5_jumper⟩ ⟨Nat.le_of_ble_eq_true rfl, Nat.le_of_ble_eq_true rfl⟩) rfl rfl (Nat.le_of_ble_eq_true rfl) dL_law_248 ⟨Nat.le_of_ble_eq_true rfl, Nat.le_of_ble_eq_true rfl⟩ (fun r2 u2 hq => ?_)
  exact wg_icmp_eq X (tgt := 907) dL_law_251 (by decide) (fun _ => K u u2 hq.2) (fun h => absurd hq.1 h)
set_option maxHeartbeats 4000000 in
set_option maxRecDepth 100000 in
theorem law_c4 (X : Cx p s m args meth c cL_law 4 ret RL wsL_law D (tyL cB cI cZ) A) (S : Sx b L xs s A i) (K : ∀ z2 y2, Rel z2 y2 → WG p l e room_1 s m args below meth c 4 D A Q (cW ad cB cI cZ z2 ++ mW bd cB cI cZ y2) 41 3668 907 (lv4 b (ad 0) (bd 0) i) []) (hR : Rel z y) : WG p l e room_1 s m args below meth c 4 D A Q (cW ad cB cI cZ z ++ mW bd cB cI cZ y) 41 3668 256 (lv4 b (ad 0) (bd 0) i) [] := by
  refine wg_aload_n X dL_law_256 1 rfl ?_
  refine wg_arg X S dL_law_257 dL_law_258 dL_law_259 (v := 1) (by decide) dL_law_260 dL_law_261 (by decide) (by decide) ?_
  refine wg_arg X S dL_law_262 dL_law_263 dL_law_264 (v := 2) (by decide) dL_law_265 dL_law_266 (by decide) (by decide) ?_
  refine law_x X (As := [.int (rd xs i 1), .int (rd xs i 2)]) (st := []) (kX4_sensor l D ad cB cI cZ _ _ z _ (r_sensor hR _ _)) (cwV 2 X.hts gL_law_X4_sensor rfl rfl rfl ⟨rfl, hn_X4_sensor⟩ ⟨Nat.le_of_ble_eq_true rfl, Nat.le_of_ble_eq_true rfl⟩) rfl rfl (Nat.le_of_ble_eq_true rfl) dL_law_267 ⟨Nat.le_of_ble_eq_true rfl, Nat.le_of_ble_eq_true rfl⟩ (fun r u hp => ?_)
  refine wg_aload_n X dL_law_270 2 rfl ?_
  refine wg_arg X S dL_law_271 dL_law_272 dL_law_273 (v := 1) (by decide) dL_law_274 dL_law_275 (by decide) (by decide) ?_
  refine wg_arg X S dL_law_276 dL_law_277 dL_law_278 (v := 2) (by decide) dL_law_279 dL_law_280 (by decide) (by decide) ?_
  refine law_m X (As := [.int (rd xs i 1), .int (rd xs i 2)]) (st := [.int r]) (kX5_sensor l D bd cB cI cZ _ _ y _ hp) (cwV 2 X.hts gL_law_X5_sensor rfl rfl rfl ⟨rfl, hn_X5_sensor⟩ ⟨Nat.le_of_ble_eq_true rfl, Nat.le_of_ble_eq_true rfl⟩) rfl rfl (Nat.le_of_ble_eq_true rfl) dL_law_281 ⟨Nat.le_of_ble_eq_true rfl, Nat.le_of_ble_eq_true rfl⟩ (fun r2 u2 hq => ?_)
  exact wg_icmp_eq X (tgt := 907) dL_law_284 (by decide) (fun _ => K u u2 hq.2) (fun h => absurd hq.1 h)
set_option maxHeartbeats 4000000 in
set_option maxRecDepth 100000 in
theorem law_c5 (X : Cx p s m args meth c cL_law 4 ret RL wsL_law D (tyL cB cI cZ) A) (S : Sx b L xs s A i) (K : ∀ z2 y2, Rel z2 y2 → WG p l e room_1 s m args below meth c 4 D A Q (cW ad cB cI cZ z2 ++ mW bd cB cI cZ y2) 41 3668 907 (lv4 b (ad 0) (bd 0) i) []) (hR : Rel z y) : WG p l e room_1 s m args below meth c 4 D A Q (cW ad cB cI cZ z ++ mW bd cB cI cZ y) 41 3668 289 (lv4 b (ad 0) (bd 0) i) [] := by
  refine wg_aload_n X dL_law_289 1 rfl ?_
  refine wg_arg X S dL_law_290 dL_law_291 dL_law_292 (v := 1) (by decide) dL_law_293 dL_law_294 (by decide) (by decide) ?_
  refine law_x X (As := [.int (rd xs i 1)]) (st := []) (kX4_base l D ad cB cI cZ _ z _ (r_base hR _)) (cwV 1 X.hts gL_law_X4_base rfl rfl rfl ⟨rfl, hn_X4_base⟩ ⟨Nat.le_of_ble_eq_true rfl, Nat.le_of_ble_eq_true rfl⟩) rfl rfl (Nat.le_of_ble_eq_true rfl) dL_law_295 ⟨Nat.le_of_ble_eq_true rfl, Nat.le_of_ble_eq_true rfl⟩ (fun r u hp => ?_)
  refine wg_aload_n X dL_law_298 2 rfl ?_
  refine wg_arg X S dL_law_299 dL_law_300 dL_law_301 (v := 1) (by decide) dL_law_302 dL_law_303 (by decide) (by decide) ?_
  refine law_m X (As := [.int (rd xs i 1)]) (st := [.int r]) (kX5_base l D bd cB cI cZ _ y _ hp) (cwV 1 X.hts gL_law_X5_base rfl rfl rfl ⟨rfl, hn_X5_base⟩ ⟨Nat.le_of_ble_eq_true rfl, Nat.le_of_ble_eq_true rfl⟩) rfl rfl (Nat.le_of_ble_eq_true rfl) dL_law_304 ⟨Nat.le_of_ble_eq_true rfl, Nat.le_of_ble_eq_true rfl⟩ (fun r2 u2 hq => ?_)
  exact wg_icmp_eq X (tgt := 907) dL_law_307 (by decide) (fun _ => K u u2 hq.2) (fun h => absurd hq.1 h)
set_option maxHeartbeats 4000000 in
set_option maxRecDepth 100000 in
theorem law_c6 (X : Cx p s m args meth c cL_law 4 ret RL wsL_law D (tyL cB cI cZ) A) (S : Sx b L xs s A i) (K : ∀ z2 y2, Rel z2 y2 → WG p l e room_1 s m args below meth c 4 D A Q (cW ad cB cI cZ z2 ++ mW bd cB cI cZ y2) 41 3668 907 (lv4 b (ad 0) (bd 0) i) []) (hR : Rel z y) : WG p l e room_1 s m args below meth c 4 D A Q (cW ad cB cI cZ z ++ mW bd cB cI cZ y) 41 3668 312 (lv4 b (ad 0) (bd 0) i) [] := by
  refine wg_aload_n X dL_law_312 1 rfl ?_
  refine wg_arg X S dL_law_313 dL_law_314 dL_law_315 (v := 1) (by decide) dL_law_316 dL_law_317 (by decide) (by decide) ?_
  refine wg_arg X S dL_law_318 dL_law_319 dL_law_320 (v := 2) (by decide) dL_law_321 dL_law_322 (by decide) (by decide) ?_
  refine wg_arg X S dL_law_323 dL_law_324 dL_law_325 (v := 3) (by decide) dL_law_326 dL_law_327 (by decide) (by decide) ?_
  refine wg_arg X S dL_law_328 dL_law_329 dL_law_330 (v := 4) (by decide) dL_law_331 dL_law_332 (by decide) (by decide) ?_
  refine wg_arg X S dL_law_333 dL_law_334 dL_law_335 (v := 5) (by decide) dL_law_336 dL_law_337 (by decide) (by decide) ?_
  refine wg_nz X (tgt := 345) (tgt2 := 346) dL_law_338 (by decide) dL_law_341 dL_law_342 (by decide) dL_law_345 rfl ?_
  refine law_x X (As := [.int (rd xs i 1), .int (rd xs i 2), .int (rd xs i 3), .int (rd xs i 4), .int (nz (rd xs i 5))]) (st := []) (kX4_reading l D ad cB cI cZ _ _ _ _ _ z _ (r_reading hR _ _ _ _ _)) (cwV 5 X.hts gL_law_X4_reading rfl rfl rfl ⟨rfl, hn_X4_reading⟩ ⟨Nat.le_of_ble_eq_true rfl, Nat.le_of_ble_eq_true rfl⟩) rfl rfl (Nat.le_of_ble_eq_true rfl) dL_law_346 ⟨Nat.le_of_ble_eq_true rfl, Nat.le_of_ble_eq_true rfl⟩ (fun r u hp => ?_)
  refine wg_aload_n X dL_law_349 2 rfl ?_
  refine wg_arg X S dL_law_350 dL_law_351 dL_law_352 (v := 1) (by decide) dL_law_353 dL_law_354 (by decide) (by decide) ?_
  refine wg_arg X S dL_law_355 dL_law_356 dL_law_357 (v := 2) (by decide) dL_law_358 dL_law_359 (by decide) (by decide) ?_
  refine wg_arg X S dL_law_360 dL_law_361 dL_law_362 (v := 3) (by decide) dL_law_363 dL_law_364 (by decide) (by decide) ?_
  refine wg_arg X S dL_law_365 dL_law_366 dL_law_367 (v := 4) (by decide) dL_law_368 dL_law_369 (by decide) (by decide) ?_
  refine wg_arg X S dL_law_370 dL_law_371 dL_law_372 (v := 5) (by decide) dL_law_373 dL_law_374 (by decide) (by decide) ?_
  refine wg_nz X (tgt := 382) (tgt2 := 383) dL_law_375 (by decide) dL_law_378 dL_law_379 (by decide) dL_law_382 rfl ?_
  refine law_m X (As := [.int (rd xs i 1), .int (rd xs i 2), .int (rd xs i 3), .int (rd xs i 4), .int (nz (rd xs i 5))]) (st := [.int r]) (kX5_reading l D bd cB cI cZ _ _ _ _ _ y _ hp) (cwV 5 X.hts gL_law_X5_reading rfl rfl rfl ⟨rfl, hn_X5_reading⟩ ⟨Nat.le_of_ble_eq_true rfl, Nat.le_of_ble_eq_true rfl⟩) rfl rfl (Nat.le_of_ble_eq_true rfl) dL_law_383 ⟨Nat.le_of_ble_eq_true rfl, Nat.le_of_ble_eq_true rfl⟩ (fun r2 u2 hq => ?_)
  exact wg_icmp_eq X (tgt := 907) dL_law_386 (by decide) (fun _ => K u u2 hq.2) (fun h => absurd hq.1 h)
set_option maxHeartbeats 4000000 in
set_option maxRecDepth 100000 in
theorem law_c7 (X : Cx p s m args meth c cL_law 4 ret RL wsL_law D (tyL cB cI cZ) A) (S : Sx b L xs s A i) (K : ∀ z2 y2, Rel z2 y2 → WG p l e room_1 s m args below meth c 4 D A Q (cW ad cB cI cZ z2 ++ mW bd cB cI cZ y2) 41 3668 907 (lv4 b (ad 0) (bd 0) i) []) (hR : Rel z y) : WG p l e room_1 s m args below meth c 4 D A Q (cW ad cB cI cZ z ++ mW bd cB cI cZ y) 41 3668 391 (lv4 b (ad 0) (bd 0) i) [] := by
  refine wg_aload_n X dL_law_391 1 rfl ?_
  refine wg_arg X S dL_law_392 dL_law_393 dL_law_394 (v := 1) (by decide) dL_law_395 dL_law_396 (by decide) (by decide) ?_
  refine wg_arg X S dL_law_397 dL_law_398 dL_law_399 (v := 2) (by decide) dL_law_400 dL_law_401 (by decide) (by decide) ?_
  refine wg_arg X S dL_law_402 dL_law_403 dL_law_404 (v := 3) (by decide) dL_law_405 dL_law_406 (by decide) (by decide) ?_
  refine wg_arg X S dL_law_407 dL_law_408 dL_law_409 (v := 4) (by decide) dL_law_410 dL_law_411 (by decide) (by decide) ?_
  refine wg_arg X S dL_law_412 dL_law_413 dL_law_414 (v := 5) (by decide) dL_law_415 dL_law_416 (by decide) (by decide) ?_
  refine wg_arg6 X S dL_law_417 dL_law_418 dL_law_419 (v := 6) (by decide) dL_law_421 dL_law_422 (by decide) (by decide) ?_
  refine law_x X (As := [.int (rd xs i 1), .int (rd xs i 2), .int (rd xs i 3), .int (rd xs i 4), .int (rd xs i 5), .int (rd xs i 6)]) (st := []) (kX4_wind l D ad cB cI cZ _ _ _ _ _ _ z _ (r_wind hR _ _ _ _ _ _)) (cwV 6 X.hts gL_law_X4_wind rfl rfl rfl ⟨rfl, hn_X4_wind⟩ ⟨Nat.le_of_ble_eq_true rfl, Nat.le_of_ble_eq_true rfl⟩) rfl rfl (Nat.le_of_ble_eq_true rfl) dL_law_423 ⟨Nat.le_of_ble_eq_true rfl, Nat.le_of_ble_eq_true rfl⟩ (fun r u hp => ?_)
  refine wg_aload_n X dL_law_426 2 rfl ?_
  refine wg_arg X S dL_law_427 dL_law_428 dL_law_429 (v := 1) (by decide) dL_law_430 dL_law_431 (by decide) (by decide) ?_
  refine wg_arg X S dL_law_432 dL_law_433 dL_law_434 (v := 2) (by decide) dL_law_435 dL_law_436 (by decide) (by decide) ?_
  refine wg_arg X S dL_law_437 dL_law_438 dL_law_439 (v := 3) (by decide) dL_law_440 dL_law_441 (by decide) (by decide) ?_
  refine wg_arg X S dL_law_442 dL_law_443 dL_law_444 (v := 4) (by decide) dL_law_445 dL_law_446 (by decide) (by decide) ?_
  refine wg_arg X S dL_law_447 dL_law_448 dL_law_449 (v := 5) (by decide) dL_law_450 dL_law_451 (by decide) (by decide) ?_
  refine wg_arg6 X S dL_law_452 dL_law_453 dL_law_454 (v := 6) (by decide) dL_law_456 dL_law_457 (by decide) (by decide) ?_
  refine law_m X (As := [.int (rd xs i 1), .int (rd xs i 2), .int (rd xs i 3), .int (rd xs i 4), .int (rd xs i 5), .int (rd xs i 6)]) (st := [.int r]) (kX5_wind l D bd cB cI cZ _ _ _ _ _ _ y _ hp) (cwV 6 X.hts gL_law_X5_wind rfl rfl rfl ⟨rfl, hn_X5_wind⟩ ⟨Nat.le_of_ble_eq_true rfl, Nat.le_of_ble_eq_true rfl⟩) rfl rfl (Nat.le_of_ble_eq_true rfl) dL_law_458 ⟨Nat.le_of_ble_eq_true rfl, Nat.le_of_ble_eq_true rfl⟩ (fun r2 u2 hq => ?_)
  exact wg_icmp_eq X (tgt := 907) dL_law_461 (by decide) (fun _ => K u u2 hq.2) (fun h => absurd hq.1 h)
set_option maxHeartbeats 4000000 in
set_option maxRecDepth 100000 in
theorem law_c8 (X : Cx p s m args meth c cL_law 4 ret RL wsL_law D (tyL cB cI cZ) A) (S : Sx b L xs s A i) (K : ∀ z2 y2, Rel z2 y2 → WG p l e room_1 s m args below meth c 4 D A Q (cW ad cB cI cZ z2 ++ mW bd cB cI cZ y2) 41 3668 907 (lv4 b (ad 0) (bd 0) i) []) (hR : Rel z y) : WG p l e room_1 s m args below meth c 4 D A Q (cW ad cB cI cZ z ++ mW bd cB cI cZ y) 41 3668 466 (lv4 b (ad 0) (bd 0) i) [] := by
  refine wg_aload_n X dL_law_466 1 rfl ?_
  refine wg_arg X S dL_law_467 dL_law_468 dL_law_469 (v := 1) (by decide) dL_law_470 dL_law_471 (by decide) (by decide) ?_
  refine wg_arg X S dL_law_472 dL_law_473 dL_law_474 (v := 2) (by decide) dL_law_475 dL_law_476 (by decide) (by decide) ?_
  refine wg_arg X S dL_law_477 dL_law_478 dL_law_479 (v := 3) (by decide) dL_law_480 dL_law_481 (by decide) (by decide) ?_
  refine wg_arg X S dL_law_482 dL_law_483 dL_law_484 (v := 4) (by decide) dL_law_485 dL_law_486 (by decide) (by decide) ?_
  refine wg_arg X S dL_law_487 dL_law_488 dL_law_489 (v := 5) (by decide) dL_law_490 dL_law_491 (by decide) (by decide) ?_
  refine wg_arg6 X S dL_law_492 dL_law_493 dL_law_494 (v := 6) (by decide) dL_law_496 dL_law_497 (by decide) (by decide) ?_
  refine law_x X (As := [.int (rd xs i 1), .int (rd xs i 2), .int (rd xs i 3), .int (rd xs i 4), .int (rd xs i 5), .int (rd xs i 6)]) (st := []) (kX4_style l D ad cB cI cZ _ _ _ _ _ _ z _ (r_style hR _ _ _ _ _ _)) (cwV 6 X.hts gL_law_X4_style rfl rfl rfl ⟨rfl, hn_X4_style⟩ ⟨Nat.le_of_ble_eq_true rfl, Nat.le_of_ble_eq_true rfl⟩) rfl rfl (Nat.le_of_ble_eq_true rfl) dL_law_498 ⟨Nat.le_of_ble_eq_true rfl, Nat.le_of_ble_eq_true rfl⟩ (fun r u hp => ?_)
  refine wg_aload_n X dL_law_501 2 rfl ?_
  refine wg_arg X S dL_law_502 dL_law_503 dL_law_504 (v := 1) (by decide) dL_law_505 dL_law_506 (by decide) (by decide) ?_
  refine wg_arg X S dL_law_507 dL_law_508 dL_law_509 (v := 2) (by decide) dL_law_510 dL_law_511 (by decide) (by decide) ?_
  refine wg_arg X S dL_law_512 dL_law_513 dL_law_514 (v := 3) (by decide) dL_law_515 dL_law_516 (by decide) (by decide) ?_
  refine wg_arg X S dL_law_517 dL_law_518 dL_law_519 (v := 4) (by decide) dL_law_520 dL_law_521 (by decide) (by decide) ?_
  refine wg_arg X S dL_law_522 dL_law_523 dL_law_524 (v := 5) (by decide) dL_law_525 dL_law_526 (by decide) (by decide) ?_
  refine wg_arg6 X S dL_law_527 dL_law_528 dL_law_529 (v := 6) (by decide) dL_law_531 dL_law_532 (by decide) (by decide) ?_
  refine law_m X (As := [.int (rd xs i 1), .int (rd xs i 2), .int (rd xs i 3), .int (rd xs i 4), .int (rd xs i 5), .int (rd xs i 6)]) (st := [.int r]) (kX5_style l D bd cB cI cZ _ _ _ _ _ _ y _ hp) (cwV 6 X.hts gL_law_X5_style rfl rfl rfl ⟨rfl, hn_X5_style⟩ ⟨Nat.le_of_ble_eq_true rfl, Nat.le_of_ble_eq_true rfl⟩) rfl rfl (Nat.le_of_ble_eq_true rfl) dL_law_533 ⟨Nat.le_of_ble_eq_true rfl, Nat.le_of_ble_eq_true rfl⟩ (fun r2 u2 hq => ?_)
  exact wg_icmp_eq X (tgt := 907) dL_law_536 (by decide) (fun _ => K u u2 hq.2) (fun h => absurd hq.1 h)
set_option maxHeartbeats 4000000 in
set_option maxRecDepth 100000 in
theorem law_c9 (X : Cx p s m args meth c cL_law 4 ret RL wsL_law D (tyL cB cI cZ) A) (S : Sx b L xs s A i) (K : ∀ z2 y2, Rel z2 y2 → WG p l e room_1 s m args below meth c 4 D A Q (cW ad cB cI cZ z2 ++ mW bd cB cI cZ y2) 41 3668 907 (lv4 b (ad 0) (bd 0) i) []) (hR : Rel z y) : WG p l e room_1 s m args below meth c 4 D A Q (cW ad cB cI cZ z ++ mW bd cB cI cZ y) 41 3668 541 (lv4 b (ad 0) (bd 0) i) [] := by
  refine wg_aload_n X dL_law_541 1 rfl ?_
  refine wg_arg X S dL_law_542 dL_law_543 dL_law_544 (v := 1) (by decide) dL_law_545 dL_law_546 (by decide) (by decide) ?_
  refine wg_arg X S dL_law_547 dL_law_548 dL_law_549 (v := 2) (by decide) dL_law_550 dL_law_551 (by decide) (by decide) ?_
  refine wg_arg X S dL_law_552 dL_law_553 dL_law_554 (v := 3) (by decide) dL_law_555 dL_law_556 (by decide) (by decide) ?_
  refine wg_nz X (tgt := 564) (tgt2 := 565) dL_law_557 (by decide) dL_law_560 dL_law_561 (by decide) dL_law_564 rfl ?_
  refine law_x X (As := [.int (rd xs i 1), .int (rd xs i 2), .int (nz (rd xs i 3))]) (st := []) (kX4_strike l D ad cB cI cZ _ _ _ z _ (r_strike hR _ _ _)) (cwV 3 X.hts gL_law_X4_strike rfl rfl rfl ⟨rfl, hn_X4_strike⟩ ⟨Nat.le_of_ble_eq_true rfl, Nat.le_of_ble_eq_true rfl⟩) rfl rfl (Nat.le_of_ble_eq_true rfl) dL_law_565 ⟨Nat.le_of_ble_eq_true rfl, Nat.le_of_ble_eq_true rfl⟩ (fun r u hp => ?_)
  refine wg_aload_n X dL_law_568 2 rfl ?_
  refine wg_arg X S dL_law_569 dL_law_570 dL_law_571 (v := 1) (by decide) dL_law_572 dL_law_573 (by decide) (by decide) ?_
  refine wg_arg X S dL_law_574 dL_law_575 dL_law_576 (v := 2) (by decide) dL_law_577 dL_law_578 (by decide) (by decide) ?_
  refine wg_arg X S dL_law_579 dL_law_580 dL_law_581 (v := 3) (by decide) dL_law_582 dL_law_583 (by decide) (by decide) ?_
  refine wg_nz X (tgt := 591) (tgt2 := 592) dL_law_584 (by decide) dL_law_587 dL_law_588 (by decide) dL_law_591 rfl ?_
  refine law_m X (As := [.int (rd xs i 1), .int (rd xs i 2), .int (nz (rd xs i 3))]) (st := [.int r]) (kX5_strike l D bd cB cI cZ _ _ _ y _ hp) (cwV 3 X.hts gL_law_X5_strike rfl rfl rfl ⟨rfl, hn_X5_strike⟩ ⟨Nat.le_of_ble_eq_true rfl, Nat.le_of_ble_eq_true rfl⟩) rfl rfl (Nat.le_of_ble_eq_true rfl) dL_law_592 ⟨Nat.le_of_ble_eq_true rfl, Nat.le_of_ble_eq_true rfl⟩ (fun r2 u2 hq => ?_)
  exact wg_icmp_eq X (tgt := 907) dL_law_595 (by decide) (fun _ => K u u2 hq.2) (fun h => absurd hq.1 h)
set_option maxHeartbeats 4000000 in
set_option maxRecDepth 100000 in
theorem law_c10 (X : Cx p s m args meth c cL_law 4 ret RL wsL_law D (tyL cB cI cZ) A) (S : Sx b L xs s A i) (K : ∀ z2 y2, Rel z2 y2 → WG p l e room_1 s m args below meth c 4 D A Q (cW ad cB cI cZ z2 ++ mW bd cB cI cZ y2) 41 3668 907 (lv4 b (ad 0) (bd 0) i) []) (hR : Rel z y) : WG p l e room_1 s m args below meth c 4 D A Q (cW ad cB cI cZ z ++ mW bd cB cI cZ y) 41 3668 600 (lv4 b (ad 0) (bd 0) i) [] := by
  refine wg_aload_n X dL_law_600 1 rfl ?_
  refine wg_arg X S dL_law_601 dL_law_602 dL_law_603 (v := 1) (by decide) dL_law_604 dL_law_605 (by decide) (by decide) ?_
  refine wg_arg X S dL_law_606 dL_law_607 dL_law_608 (v := 2) (by decide) dL_law_609 dL_law_610 (by decide) (by decide) ?_
  refine wg_arg X S dL_law_611 dL_law_612 dL_law_613 (v := 3) (by decide) dL_law_614 dL_law_615 (by decide) (by decide) ?_
  refine wg_arg X S dL_law_616 dL_law_617 dL_law_618 (v := 4) (by decide) dL_law_619 dL_law_620 (by decide) (by decide) ?_
  refine law_x X (As := [.int (rd xs i 1), .int (rd xs i 2), .int (rd xs i 3), .int (rd xs i 4)]) (st := []) (kX4_points l D ad cB cI cZ _ _ _ _ z _ (r_points hR _ _ _ _)) (cwV 4 X.hts gL_law_X4_points rfl rfl rfl ⟨rfl, hn_X4_points⟩ ⟨Nat.le_of_ble_eq_true rfl, Nat.le_of_ble_eq_true rfl⟩) rfl rfl (Nat.le_of_ble_eq_true rfl) dL_law_621 ⟨Nat.le_of_ble_eq_true rfl, Nat.le_of_ble_eq_true rfl⟩ (fun r u hp => ?_)
  refine wg_aload_n X dL_law_624 2 rfl ?_
  refine wg_arg X S dL_law_625 dL_law_626 dL_law_627 (v := 1) (by decide) dL_law_628 dL_law_629 (by decide) (by decide) ?_
  refine wg_arg X S dL_law_630 dL_law_631 dL_law_632 (v := 2) (by decide) dL_law_633 dL_law_634 (by decide) (by decide) ?_
  refine wg_arg X S dL_law_635 dL_law_636 dL_law_637 (v := 3) (by decide) dL_law_638 dL_law_639 (by decide) (by decide) ?_
  refine wg_arg X S dL_law_640 dL_law_641 dL_law_642 (v := 4) (by decide) dL_law_643 dL_law_644 (by decide) (by decide) ?_
  refine law_m X (As := [.int (rd xs i 1), .int (rd xs i 2), .int (rd xs i 3), .int (rd xs i 4)]) (st := [.int r]) (kX5_points l D bd cB cI cZ _ _ _ _ y _ hp) (cwV 4 X.hts gL_law_X5_points rfl rfl rfl ⟨rfl, hn_X5_points⟩ ⟨Nat.le_of_ble_eq_true rfl, Nat.le_of_ble_eq_true rfl⟩) rfl rfl (Nat.le_of_ble_eq_true rfl) dL_law_645 ⟨Nat.le_of_ble_eq_true rfl, Nat.le_of_ble_eq_true rfl⟩ (fun r2 u2 hq => ?_)
  exact wg_icmp_eq X (tgt := 907) dL_law_648 (by decide) (fun _ => K u u2 hq.2) (fun h => absurd hq.1 h)
set_option maxHeartbeats 4000000 in
set_option maxRecDepth 100000 in
theorem law_c11 (X : Cx p s m args meth c cL_law 4 ret RL wsL_law D (tyL cB cI cZ) A) (S : Sx b L xs s A i) (K : ∀ z2 y2, Rel z2 y2 → WG p l e room_1 s m args below meth c 4 D A Q (cW ad cB cI cZ z2 ++ mW bd cB cI cZ y2) 41 3668 907 (lv4 b (ad 0) (bd 0) i) []) (hR : Rel z y) : WG p l e room_1 s m args below meth c 4 D A Q (cW ad cB cI cZ z ++ mW bd cB cI cZ y) 41 3668 653 (lv4 b (ad 0) (bd 0) i) [] := by
  refine wg_aload_n X dL_law_653 1 rfl ?_
  refine wg_arg X S dL_law_654 dL_law_655 dL_law_656 (v := 1) (by decide) dL_law_657 dL_law_658 (by decide) (by decide) ?_
  refine wg_arg X S dL_law_659 dL_law_660 dL_law_661 (v := 2) (by decide) dL_law_662 dL_law_663 (by decide) (by decide) ?_
  refine wg_arg X S dL_law_664 dL_law_665 dL_law_666 (v := 3) (by decide) dL_law_667 dL_law_668 (by decide) (by decide) ?_
  refine law_x X (As := [.int (rd xs i 1), .int (rd xs i 2), .int (rd xs i 3)]) (st := []) (kX4_told l D ad cB cI cZ _ _ _ z _ (r_told hR _ _ _)) (cwV 3 X.hts gL_law_X4_told rfl rfl rfl ⟨rfl, hn_X4_told⟩ ⟨Nat.le_of_ble_eq_true rfl, Nat.le_of_ble_eq_true rfl⟩) rfl rfl (Nat.le_of_ble_eq_true rfl) dL_law_669 ⟨Nat.le_of_ble_eq_true rfl, Nat.le_of_ble_eq_true rfl⟩ (fun r u hp => ?_)
  refine wg_aload_n X dL_law_672 2 rfl ?_
  refine wg_arg X S dL_law_673 dL_law_674 dL_law_675 (v := 1) (by decide) dL_law_676 dL_law_677 (by decide) (by decide) ?_
  refine wg_arg X S dL_law_678 dL_law_679 dL_law_680 (v := 2) (by decide) dL_law_681 dL_law_682 (by decide) (by decide) ?_
  refine wg_arg X S dL_law_683 dL_law_684 dL_law_685 (v := 3) (by decide) dL_law_686 dL_law_687 (by decide) (by decide) ?_
  refine law_m X (As := [.int (rd xs i 1), .int (rd xs i 2), .int (rd xs i 3)]) (st := [.int r]) (kX5_told l D bd cB cI cZ _ _ _ y _ hp) (cwV 3 X.hts gL_law_X5_told rfl rfl rfl ⟨rfl, hn_X5_told⟩ ⟨Nat.le_of_ble_eq_true rfl, Nat.le_of_ble_eq_true rfl⟩) rfl rfl (Nat.le_of_ble_eq_true rfl) dL_law_688 ⟨Nat.le_of_ble_eq_true rfl, Nat.le_of_ble_eq_true rfl⟩ (fun r2 u2 hq => ?_)
  exact wg_icmp_eq X (tgt := 907) dL_law_691 (by decide) (fun _ => K u u2 hq.2) (fun h => absurd hq.1 h)
set_option maxHeartbeats 4000000 in
set_option maxRecDepth 100000 in
theorem law_c12 (X : Cx p s m args meth c cL_law 4 ret RL wsL_law D (tyL cB cI cZ) A) (S : Sx b L xs s A i) (K : ∀ z2 y2, Rel z2 y2 → WG p l e room_1 s m args below meth c 4 D A Q (cW ad cB cI cZ z2 ++ mW bd cB cI cZ y2) 41 3668 907 (lv4 b (ad 0) (bd 0) i) []) (hR : Rel z y) : WG p l e room_1 s m args below meth c 4 D A Q (cW ad cB cI cZ z ++ mW bd cB cI cZ y) 41 3668 696 (lv4 b (ad 0) (bd 0) i) [] := by
  refine wg_aload_n X dL_law_696 1 rfl ?_
  refine wg_arg X S dL_law_697 dL_law_698 dL_law_699 (v := 1) (by decide) dL_law_700 dL_law_701 (by decide) (by decide) ?_
  refine wg_arg X S dL_law_702 dL_law_703 dL_law_704 (v := 2) (by decide) dL_law_705 dL_law_706 (by decide) (by decide) ?_
  refine law_x X (As := [.int (rd xs i 1), .int (rd xs i 2)]) (st := []) (kX4_list l D ad cB cI cZ _ _ z _ (r_list hR _ _)) (cwV 2 X.hts gL_law_X4_list rfl rfl rfl ⟨rfl, hn_X4_list⟩ ⟨Nat.le_of_ble_eq_true rfl, Nat.le_of_ble_eq_true rfl⟩) rfl rfl (Nat.le_of_ble_eq_true rfl) dL_law_707 ⟨Nat.le_of_ble_eq_true rfl, Nat.le_of_ble_eq_true rfl⟩ (fun r u hp => ?_)
  refine wg_aload_n X dL_law_710 2 rfl ?_
  refine wg_arg X S dL_law_711 dL_law_712 dL_law_713 (v := 1) (by decide) dL_law_714 dL_law_715 (by decide) (by decide) ?_
  refine wg_arg X S dL_law_716 dL_law_717 dL_law_718 (v := 2) (by decide) dL_law_719 dL_law_720 (by decide) (by decide) ?_
  refine law_m X (As := [.int (rd xs i 1), .int (rd xs i 2)]) (st := [.int r]) (kX5_list l D bd cB cI cZ _ _ y _ hp) (cwV 2 X.hts gL_law_X5_list rfl rfl rfl ⟨rfl, hn_X5_list⟩ ⟨Nat.le_of_ble_eq_true rfl, Nat.le_of_ble_eq_true rfl⟩) rfl rfl (Nat.le_of_ble_eq_true rfl) dL_law_721 ⟨Nat.le_of_ble_eq_true rfl, Nat.le_of_ble_eq_true rfl⟩ (fun r2 u2 hq => ?_)
  exact wg_icmp_eq X (tgt := 907) dL_law_724 (by decide) (fun _ => K u u2 hq.2) (fun h => absurd hq.1 h)
set_option maxHeartbeats 4000000 in
set_option maxRecDepth 100000 in
theorem law_c13 (X : Cx p s m args meth c cL_law 4 ret RL wsL_law D (tyL cB cI cZ) A) (S : Sx b L xs s A i) (K : ∀ z2 y2, Rel z2 y2 → WG p l e room_1 s m args below meth c 4 D A Q (cW ad cB cI cZ z2 ++ mW bd cB cI cZ y2) 41 3668 907 (lv4 b (ad 0) (bd 0) i) []) (hR : Rel z y) : WG p l e room_1 s m args below meth c 4 D A Q (cW ad cB cI cZ z ++ mW bd cB cI cZ y) 41 3668 729 (lv4 b (ad 0) (bd 0) i) [] := by
  refine wg_aload_n X dL_law_729 1 rfl ?_
  refine wg_arg X S dL_law_730 dL_law_731 dL_law_732 (v := 1) (by decide) dL_law_733 dL_law_734 (by decide) (by decide) ?_
  refine wg_arg X S dL_law_735 dL_law_736 dL_law_737 (v := 2) (by decide) dL_law_738 dL_law_739 (by decide) (by decide) ?_
  refine wg_arg X S dL_law_740 dL_law_741 dL_law_742 (v := 3) (by decide) dL_law_743 dL_law_744 (by decide) (by decide) ?_
  refine law_x X (As := [.int (rd xs i 1), .int (rd xs i 2), .int (rd xs i 3)]) (st := []) (kX4_start l D ad cB cI cZ _ _ _ z _ (r_start hR _ _ _)) (cwV 3 X.hts gL_law_X4_start rfl rfl rfl ⟨rfl, hn_X4_start⟩ ⟨Nat.le_of_ble_eq_true rfl, Nat.le_of_ble_eq_true rfl⟩) rfl rfl (Nat.le_of_ble_eq_true rfl) dL_law_745 ⟨Nat.le_of_ble_eq_true rfl, Nat.le_of_ble_eq_true rfl⟩ (fun r u hp => ?_)
  refine wg_aload_n X dL_law_748 2 rfl ?_
  refine wg_arg X S dL_law_749 dL_law_750 dL_law_751 (v := 1) (by decide) dL_law_752 dL_law_753 (by decide) (by decide) ?_
  refine wg_arg X S dL_law_754 dL_law_755 dL_law_756 (v := 2) (by decide) dL_law_757 dL_law_758 (by decide) (by decide) ?_
  refine wg_arg X S dL_law_759 dL_law_760 dL_law_761 (v := 3) (by decide) dL_law_762 dL_law_763 (by decide) (by decide) ?_
  refine law_m X (As := [.int (rd xs i 1), .int (rd xs i 2), .int (rd xs i 3)]) (st := [.int r]) (kX5_start l D bd cB cI cZ _ _ _ y _ hp) (cwV 3 X.hts gL_law_X5_start rfl rfl rfl ⟨rfl, hn_X5_start⟩ ⟨Nat.le_of_ble_eq_true rfl, Nat.le_of_ble_eq_true rfl⟩) rfl rfl (Nat.le_of_ble_eq_true rfl) dL_law_764 ⟨Nat.le_of_ble_eq_true rfl, Nat.le_of_ble_eq_true rfl⟩ (fun r2 u2 hq => ?_)
  exact wg_icmp_eq X (tgt := 907) dL_law_767 (by decide) (fun _ => K u u2 hq.2) (fun h => absurd hq.1 h)
set_option maxHeartbeats 4000000 in
set_option maxRecDepth 100000 in
theorem law_c14 (X : Cx p s m args meth c cL_law 4 ret RL wsL_law D (tyL cB cI cZ) A) (S : Sx b L xs s A i) (K : ∀ z2 y2, Rel z2 y2 → WG p l e room_1 s m args below meth c 4 D A Q (cW ad cB cI cZ z2 ++ mW bd cB cI cZ y2) 41 3668 907 (lv4 b (ad 0) (bd 0) i) []) (hR : Rel z y) : WG p l e room_1 s m args below meth c 4 D A Q (cW ad cB cI cZ z ++ mW bd cB cI cZ y) 41 3668 772 (lv4 b (ad 0) (bd 0) i) [] := by
  refine wg_aload_n X dL_law_772 1 rfl ?_
  refine wg_arg X S dL_law_773 dL_law_774 dL_law_775 (v := 1) (by decide) dL_law_776 dL_law_777 (by decide) (by decide) ?_
  refine wg_arg X S dL_law_778 dL_law_779 dL_law_780 (v := 2) (by decide) dL_law_781 dL_law_782 (by decide) (by decide) ?_
  refine law_x X (As := [.int (rd xs i 1), .int (rd xs i 2)]) (st := []) (kX4_team l D ad cB cI cZ _ _ z _ (r_team hR _ _)) (cwV 2 X.hts gL_law_X4_team rfl rfl rfl ⟨rfl, hn_X4_team⟩ ⟨Nat.le_of_ble_eq_true rfl, Nat.le_of_ble_eq_true rfl⟩) rfl rfl (Nat.le_of_ble_eq_true rfl) dL_law_783 ⟨Nat.le_of_ble_eq_true rfl, Nat.le_of_ble_eq_true rfl⟩ (fun r u hp => ?_)
  refine wg_aload_n X dL_law_786 2 rfl ?_
  refine wg_arg X S dL_law_787 dL_law_788 dL_law_789 (v := 1) (by decide) dL_law_790 dL_law_791 (by decide) (by decide) ?_
  refine wg_arg X S dL_law_792 dL_law_793 dL_law_794 (v := 2) (by decide) dL_law_795 dL_law_796 (by decide) (by decide) ?_
  refine law_m X (As := [.int (rd xs i 1), .int (rd xs i 2)]) (st := [.int r]) (kX5_team l D bd cB cI cZ _ _ y _ hp) (cwV 2 X.hts gL_law_X5_team rfl rfl rfl ⟨rfl, hn_X5_team⟩ ⟨Nat.le_of_ble_eq_true rfl, Nat.le_of_ble_eq_true rfl⟩) rfl rfl (Nat.le_of_ble_eq_true rfl) dL_law_797 ⟨Nat.le_of_ble_eq_true rfl, Nat.le_of_ble_eq_true rfl⟩ (fun r2 u2 hq => ?_)
  exact wg_icmp_eq X (tgt := 907) dL_law_800 (by decide) (fun _ => K u u2 hq.2) (fun h => absurd hq.1 h)
set_option maxHeartbeats 4000000 in
set_option maxRecDepth 100000 in
theorem law_c15 (X : Cx p s m args meth c cL_law 4 ret RL wsL_law D (tyL cB cI cZ) A) (S : Sx b L xs s A i) (K : ∀ z2 y2, Rel z2 y2 → WG p l e room_1 s m args below meth c 4 D A Q (cW ad cB cI cZ z2 ++ mW bd cB cI cZ y2) 41 3668 907 (lv4 b (ad 0) (bd 0) i) []) (hR : Rel z y) : WG p l e room_1 s m args below meth c 4 D A Q (cW ad cB cI cZ z ++ mW bd cB cI cZ y) 41 3668 805 (lv4 b (ad 0) (bd 0) i) [] := by
  refine wg_aload_n X dL_law_805 1 rfl ?_
  refine wg_arg X S dL_law_806 dL_law_807 dL_law_808 (v := 1) (by decide) dL_law_809 dL_law_810 (by decide) (by decide) ?_
  refine law_x X (As := [.int (rd xs i 1)]) (st := []) (kX4_record l D ad cB cI cZ _ z _ (r_record hR _)) (cwV 1 X.hts gL_law_X4_record rfl rfl rfl ⟨rfl, hn_X4_record⟩ ⟨Nat.le_of_ble_eq_true rfl, Nat.le_of_ble_eq_true rfl⟩) rfl rfl (Nat.le_of_ble_eq_true rfl) dL_law_811 ⟨Nat.le_of_ble_eq_true rfl, Nat.le_of_ble_eq_true rfl⟩ (fun r u hp => ?_)
  refine wg_aload_n X dL_law_814 2 rfl ?_
  refine wg_arg X S dL_law_815 dL_law_816 dL_law_817 (v := 1) (by decide) dL_law_818 dL_law_819 (by decide) (by decide) ?_
  refine law_m X (As := [.int (rd xs i 1)]) (st := [.int r]) (kX5_record l D bd cB cI cZ _ y _ hp) (cwV 1 X.hts gL_law_X5_record rfl rfl rfl ⟨rfl, hn_X5_record⟩ ⟨Nat.le_of_ble_eq_true rfl, Nat.le_of_ble_eq_true rfl⟩) rfl rfl (Nat.le_of_ble_eq_true rfl) dL_law_820 ⟨Nat.le_of_ble_eq_true rfl, Nat.le_of_ble_eq_true rfl⟩ (fun r2 u2 hq => ?_)
  exact wg_icmp_eq X (tgt := 907) dL_law_823 (by decide) (fun _ => K u u2 hq.2) (fun h => absurd hq.1 h)
set_option maxHeartbeats 4000000 in
set_option maxRecDepth 100000 in
theorem law_c16 (X : Cx p s m args meth c cL_law 4 ret RL wsL_law D (tyL cB cI cZ) A) (S : Sx b L xs s A i) (K : ∀ z2 y2, Rel z2 y2 → WG p l e room_1 s m args below meth c 4 D A Q (cW ad cB cI cZ z2 ++ mW bd cB cI cZ y2) 41 3668 907 (lv4 b (ad 0) (bd 0) i) []) (hR : Rel z y) : WG p l e room_1 s m args below meth c 4 D A Q (cW ad cB cI cZ z ++ mW bd cB cI cZ y) 41 3668 828 (lv4 b (ad 0) (bd 0) i) [] := by
  refine wg_aload_n X dL_law_828 1 rfl ?_
  refine wg_arg X S dL_law_829 dL_law_830 dL_law_831 (v := 1) (by decide) dL_law_832 dL_law_833 (by decide) (by decide) ?_
  refine wg_arg X S dL_law_834 dL_law_835 dL_law_836 (v := 2) (by decide) dL_law_837 dL_law_838 (by decide) (by decide) ?_
  refine wg_arg X S dL_law_839 dL_law_840 dL_law_841 (v := 3) (by decide) dL_law_842 dL_law_843 (by decide) (by decide) ?_
  refine law_x X (As := [.int (rd xs i 1), .int (rd xs i 2), .int (rd xs i 3)]) (st := []) (kX4_differ l D ad cB cI cZ _ _ _ z _ (r_differ hR _ _ _)) (cwV 3 X.hts gL_law_X4_differ rfl rfl rfl ⟨rfl, hn_X4_differ⟩ ⟨Nat.le_of_ble_eq_true rfl, Nat.le_of_ble_eq_true rfl⟩) rfl rfl (Nat.le_of_ble_eq_true rfl) dL_law_844 ⟨Nat.le_of_ble_eq_true rfl, Nat.le_of_ble_eq_true rfl⟩ (fun r u hp => ?_)
  refine wg_aload_n X dL_law_847 2 rfl ?_
  refine wg_arg X S dL_law_848 dL_law_849 dL_law_850 (v := 1) (by decide) dL_law_851 dL_law_852 (by decide) (by decide) ?_
  refine wg_arg X S dL_law_853 dL_law_854 dL_law_855 (v := 2) (by decide) dL_law_856 dL_law_857 (by decide) (by decide) ?_
  refine wg_arg X S dL_law_858 dL_law_859 dL_law_860 (v := 3) (by decide) dL_law_861 dL_law_862 (by decide) (by decide) ?_
  refine law_m X (As := [.int (rd xs i 1), .int (rd xs i 2), .int (rd xs i 3)]) (st := [.int r]) (kX5_differ l D bd cB cI cZ _ _ _ y _ hp) (cwV 3 X.hts gL_law_X5_differ rfl rfl rfl ⟨rfl, hn_X5_differ⟩ ⟨Nat.le_of_ble_eq_true rfl, Nat.le_of_ble_eq_true rfl⟩) rfl rfl (Nat.le_of_ble_eq_true rfl) dL_law_863 ⟨Nat.le_of_ble_eq_true rfl, Nat.le_of_ble_eq_true rfl⟩ (fun r2 u2 hq => ?_)
  exact wg_icmp_eq X (tgt := 907) dL_law_866 (by decide) (fun _ => K u u2 hq.2) (fun h => absurd hq.1 h)
set_option maxHeartbeats 4000000 in
set_option maxRecDepth 100000 in
theorem law_c17 (X : Cx p s m args meth c cL_law 4 ret RL wsL_law D (tyL cB cI cZ) A) (S : Sx b L xs s A i) (K : ∀ z2 y2, Rel z2 y2 → WG p l e room_1 s m args below meth c 4 D A Q (cW ad cB cI cZ z2 ++ mW bd cB cI cZ y2) 41 3668 907 (lv4 b (ad 0) (bd 0) i) []) (hR : Rel z y) : WG p l e room_1 s m args below meth c 4 D A Q (cW ad cB cI cZ z ++ mW bd cB cI cZ y) 41 3668 871 (lv4 b (ad 0) (bd 0) i) [] := by
  refine wg_aload_n X dL_law_871 1 rfl ?_
  refine law_x X (As := []) (st := []) (kX4_close l D ad cB cI cZ  z _ (r_close hR )) (cwV 0 X.hts gL_law_X4_close rfl rfl rfl ⟨rfl, hn_X4_close⟩ ⟨Nat.le_of_ble_eq_true rfl, Nat.le_of_ble_eq_true rfl⟩) rfl rfl (Nat.le_of_ble_eq_true rfl) dL_law_872 ⟨Nat.le_of_ble_eq_true rfl, Nat.le_of_ble_eq_true rfl⟩ (fun r u hp => ?_)
  refine wg_aload_n X dL_law_875 2 rfl ?_
  refine law_m X (As := []) (st := [.int r]) (kX5_close l D bd cB cI cZ  y _ hp) (cwV 0 X.hts gL_law_X5_close rfl rfl rfl ⟨rfl, hn_X5_close⟩ ⟨Nat.le_of_ble_eq_true rfl, Nat.le_of_ble_eq_true rfl⟩) rfl rfl (Nat.le_of_ble_eq_true rfl) dL_law_876 ⟨Nat.le_of_ble_eq_true rfl, Nat.le_of_ble_eq_true rfl⟩ (fun r2 u2 hq => ?_)
  exact wg_icmp_eq X (tgt := 907) dL_law_879 (by decide) (fun _ => K u u2 hq.2) (fun h => absurd hq.1 h)
set_option maxHeartbeats 4000000 in
set_option maxRecDepth 100000 in
theorem law_c18 (X : Cx p s m args meth c cL_law 4 ret RL wsL_law D (tyL cB cI cZ) A) (S : Sx b L xs s A i) (K : ∀ z2 y2, Rel z2 y2 → WG p l e room_1 s m args below meth c 4 D A Q (cW ad cB cI cZ z2 ++ mW bd cB cI cZ y2) 41 3668 907 (lv4 b (ad 0) (bd 0) i) []) (hR : Rel z y) : WG p l e room_1 s m args below meth c 4 D A Q (cW ad cB cI cZ z ++ mW bd cB cI cZ y) 41 3668 884 (lv4 b (ad 0) (bd 0) i) [] := by
  refine wg_aload_n X dL_law_884 1 rfl ?_
  refine wg_arg X S dL_law_885 dL_law_886 dL_law_887 (v := 1) (by decide) dL_law_888 dL_law_889 (by decide) (by decide) ?_
  refine law_x X (As := [.int (rd xs i 1)]) (st := []) (kX4_count l D ad cB cI cZ _ z _ (r_count hR _)) (cwV 1 X.hts gL_law_X4_count rfl rfl rfl ⟨rfl, hn_X4_count⟩ ⟨Nat.le_of_ble_eq_true rfl, Nat.le_of_ble_eq_true rfl⟩) rfl rfl (Nat.le_of_ble_eq_true rfl) dL_law_890 ⟨Nat.le_of_ble_eq_true rfl, Nat.le_of_ble_eq_true rfl⟩ (fun r u hp => ?_)
  refine wg_aload_n X dL_law_893 2 rfl ?_
  refine wg_arg X S dL_law_894 dL_law_895 dL_law_896 (v := 1) (by decide) dL_law_897 dL_law_898 (by decide) (by decide) ?_
  refine law_m X (As := [.int (rd xs i 1)]) (st := [.int r]) (kX5_count l D bd cB cI cZ _ y _ hp) (cwV 1 X.hts gL_law_X5_count rfl rfl rfl ⟨rfl, hn_X5_count⟩ ⟨Nat.le_of_ble_eq_true rfl, Nat.le_of_ble_eq_true rfl⟩) rfl rfl (Nat.le_of_ble_eq_true rfl) dL_law_899 ⟨Nat.le_of_ble_eq_true rfl, Nat.le_of_ble_eq_true rfl⟩ (fun r2 u2 hq => ?_)
  exact wg_icmp_eq X (tgt := 907) dL_law_902 (by decide) (fun _ => K u u2 hq.2) (fun h => absurd hq.1 h)
end LAWC
