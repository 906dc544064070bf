/-! ===== the law, call by call ===== -/
section QK
variable {X : qCT} {cells slots b N i : Nat} {xs : Nat → Int32} {I : qMI} {L : qML} {P : qMP} {W : Wd}
/-- player -/
theorem lw_c0 (C : qCB X RL cL_law 4 100 600000 7302250) (S : qSc X b N xs) (hN : N ≤ 2560) (hi : i + 4 < N) (hc : cells ≤ 600000 ∧ slots ≤ 7302250) (hB : BW I L P W) (k : ∀ I' L' P' W', BW I' L' P' W' → qG X 983 (loL b i) [] SH0 I' L' P' cells slots) : qG X 172 (loL b i) [] SH0 I L P cells slots := by
  obtain ⟨hX, hM⟩ := hB
  refine q_aload_n C (k := 1) dL_law_172 rfl ?_
  refine q_rd C S hN (i := i) (k := 1) (by omega) dL_law_173 dL_law_174 dL_law_175 dL_law_176 dL_law_177 (by decide) ?_
  refine q_rd C S hN (i := i) (k := 2) (by omega) dL_law_178 dL_law_179 dL_law_180 dL_law_181 dL_law_182 (by decide) ?_
  refine q_rd C S hN (i := i) (k := 3) (by omega) dL_law_183 dL_law_184 dL_law_185 dL_law_186 dL_law_187 (by decide) ?_
  refine q_rd C S hN (i := i) (k := 4) (by omega) dL_law_188 dL_law_189 dL_law_190 dL_law_191 dL_law_192 (by decide) ?_
  refine q_cVi (d := 99) (as := [.int (xs (i + 1)), .int (xs (i + 2)), .int (xs (i + 3)), .int (xs (i + 4))]) (st := []) (r := 1) (f := f9I I L (playerR W (xs (i + 1)) (xs (i + 2)) (xs (i + 3)) (xs (i + 4))).1 (playerR W (xs (i + 1)) (xs (i + 2)) (xs (i + 3)) (xs (i + 4))).2) C mv_X9_player ml_RL_13 dL_law_193 rfl rfl rfl (Nat.le_of_ble_eq_true rfl) hc (ok9_player (d := 94) hX fun I1 L1 P1 h => ⟨rfl, h⟩) (fun x1 I1 L1 P1 h1 => ?_)
  obtain ⟨rfl, hX1⟩ := h1
  have hM1 := hM.side hX1.far
  refine q_aload_n C (k := 2) dL_law_196 rfl ?_
  refine q_rd C S hN (i := i) (k := 1) (by omega) dL_law_197 dL_law_198 dL_law_199 dL_law_200 dL_law_201 (by decide) ?_
  refine q_rd C S hN (i := i) (k := 2) (by omega) dL_law_202 dL_law_203 dL_law_204 dL_law_205 dL_law_206 (by decide) ?_
  refine q_rd C S hN (i := i) (k := 3) (by omega) dL_law_207 dL_law_208 dL_law_209 dL_law_210 dL_law_211 (by decide) ?_
  refine q_rd C S hN (i := i) (k := 4) (by omega) dL_law_212 dL_law_213 dL_law_214 dL_law_215 dL_law_216 (by decide) ?_
  refine q_cVi (d := 99) (as := [.int (xs (i + 1)), .int (xs (i + 2)), .int (xs (i + 3)), .int (xs (i + 4))]) (st := [.int (playerR W (xs (i + 1)) (xs (i + 2)) (xs (i + 3)) (xs (i + 4))).1]) (r := 144) (f := f10I I1 L1 P1 (playerR W (xs (i + 1)) (xs (i + 2)) (xs (i + 3)) (xs (i + 4))).1 (playerR W (xs (i + 1)) (xs (i + 2)) (xs (i + 3)) (xs (i + 4))).2) C mv_X10_player ml_RL_17 dL_law_217 rfl rfl rfl (Nat.le_of_ble_eq_true rfl) hc (ok10_player (d := 95) hX1.1.1 hM1 fun I2 L2 hF h => ⟨rfl, rfl, hF, h⟩) (fun x2 I2 L2 P2 h2 => ?_)
  obtain ⟨rfl, rfl, hF, hM2⟩ := h2
  exact q_icmp_eq (tgt := 983) C dL_law_220 (by decide) (fun _ => k _ _ _ _ ⟨hX1.side hF, hM2⟩) (fun c => absurd rfl c)
/-- tell -/
theorem lw_c1 (C : qCB X RL cL_law 4 100 600000 7302250) (S : qSc X b N xs) (hN : N ≤ 2560) (hi : i + 4 < N) (hc : cells ≤ 600000 ∧ slots ≤ 7302250) (hB : BW I L P W) (k : ∀ I' L' P' W', BW I' L' P' W' → qG X 983 (loL b i) [] SH0 I' L' P' cells slots) : qG X 225 (loL b i) [] SH0 I L P cells slots := by
  obtain ⟨hX, hM⟩ := hB
  refine q_aload_n C (k := 1) dL_law_225 rfl ?_
  refine q_rd C S hN (i := i) (k := 1) (by omega) dL_law_226 dL_law_227 dL_law_228 dL_law_229 dL_law_230 (by decide) ?_
  refine q_rd C S hN (i := i) (k := 2) (by omega) dL_law_231 dL_law_232 dL_law_233 dL_law_234 dL_law_235 (by decide) ?_
  refine q_rd C S hN (i := i) (k := 3) (by omega) dL_law_236 dL_law_237 dL_law_238 dL_law_239 dL_law_240 (by decide) ?_
  refine q_cVi (d := 99) (as := [.int (xs (i + 1)), .int (xs (i + 2)), .int (xs (i + 3))]) (st := []) (r := 1) (f := f9I I L (tellR W (xs (i + 1)) (xs (i + 2)) (xs (i + 3))).1 (tellR W (xs (i + 1)) (xs (i + 2)) (xs (i + 3))).2) C mv_X9_tell ml_RL_18 dL_law_241 rfl rfl rfl (Nat.le_of_ble_eq_true rfl) hc (ok9_tell (d := 95) hX fun I1 L1 P1 h => ⟨rfl, h⟩) (fun x1 I1 L1 P1 h1 => ?_)
  obtain ⟨rfl, hX1⟩ := h1
  have hM1 := hM.side hX1.far
  refine q_aload_n C (k := 2) dL_law_244 rfl ?_
  refine q_rd C S hN (i := i) (k := 1) (by omega) dL_law_245 dL_law_246 dL_law_247 dL_law_248 dL_law_249 (by decide) ?_
  refine q_rd C S hN (i := i) (k := 2) (by omega) dL_law_250 dL_law_251 dL_law_252 dL_law_253 dL_law_254 (by decide) ?_
  refine q_rd C S hN (i := i) (k := 3) (by omega) dL_law_255 dL_law_256 dL_law_257 dL_law_258 dL_law_259 (by decide) ?_
  refine q_cVi (d := 99) (as := [.int (xs (i + 1)), .int (xs (i + 2)), .int (xs (i + 3))]) (st := [.int (tellR W (xs (i + 1)) (xs (i + 2)) (xs (i + 3))).1]) (r := 144) (f := f10I I1 L1 P1 (tellR W (xs (i + 1)) (xs (i + 2)) (xs (i + 3))).1 (tellR W (xs (i + 1)) (xs (i + 2)) (xs (i + 3))).2) C mv_X10_tell ml_RL_22 dL_law_260 rfl rfl rfl (Nat.le_of_ble_eq_true rfl) hc (ok10_tell (d := 96) hX1.1.1 hM1 hX.okw fun I2 L2 hF h => ⟨rfl, rfl, hF, h⟩) (fun x2 I2 L2 P2 h2 => ?_)
  obtain ⟨rfl, rfl, hF, hM2⟩ := h2
  exact q_icmp_eq (tgt := 983) C dL_law_263 (by decide) (fun _ => k _ _ _ _ ⟨hX1.side hF, hM2⟩) (fun c => absurd rfl c)
/-- of -/
theorem lw_c2 (C : qCB X RL cL_law 4 100 600000 7302250) (S : qSc X b N xs) (hN : N ≤ 2560) (hi : i + 4 < N) (hc : cells ≤ 600000 ∧ slots ≤ 7302250) (hB : BW I L P W) (k : ∀ I' L' P' W', BW I' L' P' W' → qG X 983 (loL b i) [] SH0 I' L' P' cells slots) : qG X 268 (loL b i) [] SH0 I L P cells slots := by
  obtain ⟨hX, hM⟩ := hB
  refine q_aload_n C (k := 1) dL_law_268 rfl ?_
  refine q_rd C S hN (i := i) (k := 1) (by omega) dL_law_269 dL_law_270 dL_law_271 dL_law_272 dL_law_273 (by decide) ?_
  refine q_rd C S hN (i := i) (k := 2) (by omega) dL_law_274 dL_law_275 dL_law_276 dL_law_277 dL_law_278 (by decide) ?_
  refine q_cVi (d := 99) (as := [.int (xs (i + 1)), .int (xs (i + 2))]) (st := []) (r := 1) (f := f9I I L (ofV W.1 (xs (i + 1)) (xs (i + 2))) W) C mv_X9_of ml_RL_23 dL_law_279 rfl rfl rfl (Nat.le_of_ble_eq_true rfl) hc (ok9_of (d := 95) hX.1.1 hX.2.1 ⟨rfl, hX⟩) (fun x1 I1 L1 P1 h1 => ?_)
  obtain ⟨rfl, hX1⟩ := h1
  have hM1 := hM.side hX1.far
  refine q_aload_n C (k := 2) dL_law_282 rfl ?_
  refine q_rd C S hN (i := i) (k := 1) (by omega) dL_law_283 dL_law_284 dL_law_285 dL_law_286 dL_law_287 (by decide) ?_
  refine q_rd C S hN (i := i) (k := 2) (by omega) dL_law_288 dL_law_289 dL_law_290 dL_law_291 dL_law_292 (by decide) ?_
  refine q_cVi (d := 99) (as := [.int (xs (i + 1)), .int (xs (i + 2))]) (st := [.int (ofV W.1 (xs (i + 1)) (xs (i + 2)))]) (r := 144) (f := f10I I1 L1 P1 (ofV W.1 (xs (i + 1)) (xs (i + 2))) W) C mv_X10_of ml_RL_27 dL_law_293 rfl rfl rfl (Nat.le_of_ble_eq_true rfl) hc (ok10_of (d := 96) hX1.1.1 hM1 hX.okw fun I2 hK => ⟨rfl, rfl, hK.fr, hM1.keep hK⟩) (fun x2 I2 L2 P2 h2 => ?_)
  obtain ⟨rfl, rfl, hF, hM2⟩ := h2
  exact q_icmp_eq (tgt := 983) C dL_law_296 (by decide) (fun _ => k _ _ _ _ ⟨hX1.side hF, hM2⟩) (fun c => absurd rfl c)
/-- level -/
theorem lw_c3 (C : qCB X RL cL_law 4 100 600000 7302250) (S : qSc X b N xs) (hN : N ≤ 2560) (hi : i + 4 < N) (hc : cells ≤ 600000 ∧ slots ≤ 7302250) (hB : BW I L P W) (k : ∀ I' L' P' W', BW I' L' P' W' → qG X 983 (loL b i) [] SH0 I' L' P' cells slots) : qG X 301 (loL b i) [] SH0 I L P cells slots := by
  obtain ⟨hX, hM⟩ := hB
  refine q_aload_n C (k := 1) dL_law_301 rfl ?_
  refine q_rd C S hN (i := i) (k := 1) (by omega) dL_law_302 dL_law_303 dL_law_304 dL_law_305 dL_law_306 (by decide) ?_
  refine q_rd C S hN (i := i) (k := 2) (by omega) dL_law_307 dL_law_308 dL_law_309 dL_law_310 dL_law_311 (by decide) ?_
  refine q_cVi (d := 99) (as := [.int (xs (i + 1)), .int (xs (i + 2))]) (st := []) (r := 1) (f := f9I I L (levelR W (xs (i + 1)) (xs (i + 2))).1 (levelR W (xs (i + 1)) (xs (i + 2))).2) C mv_X9_level ml_RL_28 dL_law_312 rfl rfl rfl (Nat.le_of_ble_eq_true rfl) hc (ok9_level (d := 95) hX fun I1 L1 P1 h => ⟨rfl, h⟩) (fun x1 I1 L1 P1 h1 => ?_)
  obtain ⟨rfl, hX1⟩ := h1
  have hM1 := hM.side hX1.far
  refine q_aload_n C (k := 2) dL_law_315 rfl ?_
  refine q_rd C S hN (i := i) (k := 1) (by omega) dL_law_316 dL_law_317 dL_law_318 dL_law_319 dL_law_320 (by decide) ?_
  refine q_rd C S hN (i := i) (k := 2) (by omega) dL_law_321 dL_law_322 dL_law_323 dL_law_324 dL_law_325 (by decide) ?_
  refine q_cVi (d := 99) (as := [.int (xs (i + 1)), .int (xs (i + 2))]) (st := [.int (levelR W (xs (i + 1)) (xs (i + 2))).1]) (r := 144) (f := f10I I1 L1 P1 (levelR W (xs (i + 1)) (xs (i + 2))).1 (levelR W (xs (i + 1)) (xs (i + 2))).2) C mv_X10_level ml_RL_31 dL_law_326 rfl rfl rfl (Nat.le_of_ble_eq_true rfl) hc (ok10_level (d := 96) hX1.1.1 hM1 hX.okw fun I2 L2 hF h => ⟨rfl, rfl, hF, h⟩) (fun x2 I2 L2 P2 h2 => ?_)
  obtain ⟨rfl, rfl, hF, hM2⟩ := h2
  exact q_icmp_eq (tgt := 983) C dL_law_329 (by decide) (fun _ => k _ _ _ _ ⟨hX1.side hF, hM2⟩) (fun c => absurd rfl c)
/-- feed -/
theorem lw_c4 (C : qCB X RL cL_law 4 100 600000 7302250) (S : qSc X b N xs) (hN : N ≤ 2560) (hi : i + 4 < N) (hc : cells ≤ 600000 ∧ slots ≤ 7302250) (hB : BW I L P W) (k : ∀ I' L' P' W', BW I' L' P' W' → qG X 983 (loL b i) [] SH0 I' L' P' cells slots) : qG X 334 (loL b i) [] SH0 I L P cells slots := by
  obtain ⟨hX, hM⟩ := hB
  refine q_aload_n C (k := 1) dL_law_334 rfl ?_
  refine q_rd C S hN (i := i) (k := 1) (by omega) dL_law_335 dL_law_336 dL_law_337 dL_law_338 dL_law_339 (by decide) ?_
  refine q_cVi (d := 99) (as := [.int (xs (i + 1))]) (st := []) (r := 1) (f := f9I I L (feedR W (xs (i + 1))).1 (feedR W (xs (i + 1))).2) C mv_X9_feed ml_RL_32 dL_law_340 rfl rfl rfl (Nat.le_of_ble_eq_true rfl) hc (ok9_feed (d := 97) hX fun I1 L1 P1 h => ⟨rfl, h⟩) (fun x1 I1 L1 P1 h1 => ?_)
  obtain ⟨rfl, hX1⟩ := h1
  have hM1 := hM.side hX1.far
  refine q_aload_n C (k := 2) dL_law_343 rfl ?_
  refine q_rd C S hN (i := i) (k := 1) (by omega) dL_law_344 dL_law_345 dL_law_346 dL_law_347 dL_law_348 (by decide) ?_
  refine q_cVi (d := 99) (as := [.int (xs (i + 1))]) (st := [.int (feedR W (xs (i + 1))).1]) (r := 144) (f := f10I I1 L1 P1 (feedR W (xs (i + 1))).1 (feedR W (xs (i + 1))).2) C mv_X10_feed ml_RL_36 dL_law_349 rfl rfl rfl (Nat.le_of_ble_eq_true rfl) hc (ok10_feed (d := 97) hX1.1.1 hM1 hX.okw fun I2 L2 hF h => ⟨rfl, rfl, hF, h⟩) (fun x2 I2 L2 P2 h2 => ?_)
  obtain ⟨rfl, rfl, hF, hM2⟩ := h2
  exact q_icmp_eq (tgt := 983) C dL_law_352 (by decide) (fun _ => k _ _ _ _ ⟨hX1.side hF, hM2⟩) (fun c => absurd rfl c)
/-- players -/
theorem lw_c5 (C : qCB X RL cL_law 4 100 600000 7302250) (S : qSc X b N xs) (hN : N ≤ 2560) (hi : i + 4 < N) (hc : cells ≤ 600000 ∧ slots ≤ 7302250) (hB : BW I L P W) (k : ∀ I' L' P' W', BW I' L' P' W' → qG X 983 (loL b i) [] SH0 I' L' P' cells slots) : qG X 357 (loL b i) [] SH0 I L P cells slots := by
  obtain ⟨hX, hM⟩ := hB
  refine q_aload_n C (k := 1) dL_law_357 rfl ?_
  refine q_cVi (d := 99) (as := []) (st := []) (r := 1) (f := f9I I L (playersR W).1 (playersR W).2) C mv_X9_players ml_RL_37 dL_law_358 rfl rfl rfl (Nat.le_of_ble_eq_true rfl) hc (ok9_players (d := 92) hX fun I1 L1 P1 h => ⟨rfl, h⟩) (fun x1 I1 L1 P1 h1 => ?_)
  obtain ⟨rfl, hX1⟩ := h1
  have hM1 := hM.side hX1.far
  refine q_aload_n C (k := 2) dL_law_361 rfl ?_
  refine q_cVi (d := 99) (as := []) (st := [.int (playersR W).1]) (r := 144) (f := f10I I1 L1 P1 (playersR W).1 (playersR W).2) C mv_X10_players ml_RL_41 dL_law_362 rfl rfl rfl (Nat.le_of_ble_eq_true rfl) hc (ok10_players (d := 94) hX1.1.1 hM1 hX.okw fun I2 L2 hF h => ⟨rfl, rfl, hF, h⟩) (fun x2 I2 L2 P2 h2 => ?_)
  obtain ⟨rfl, rfl, hF, hM2⟩ := h2
  exact q_icmp_eq (tgt := 983) C dL_law_365 (by decide) (fun _ => k _ _ _ _ ⟨hX1.side hF, hM2⟩) (fun c => absurd rfl c)
/-- howMany -/
theorem lw_c6 (C : qCB X RL cL_law 4 100 600000 7302250) (S : qSc X b N xs) (hN : N ≤ 2560) (hi : i + 4 < N) (hc : cells ≤ 600000 ∧ slots ≤ 7302250) (hB : BW I L P W) (k : ∀ I' L' P' W', BW I' L' P' W' → qG X 983 (loL b i) [] SH0 I' L' P' cells slots) : qG X 370 (loL b i) [] SH0 I L P cells slots := by
  obtain ⟨hX, hM⟩ := hB
  refine q_aload_n C (k := 1) dL_law_370 rfl ?_
  refine q_cVl (d := 99) (as := []) (st := []) (r := 1) (f := f9L I L (if 2 ≤ W.1 0 0 then lN (allS W.1) else -5) W) C mv_X9_howMany ml_RL_42 dL_law_371 rfl rfl rfl (Nat.le_of_ble_eq_true rfl) hc (ok9_howMany (d := 91) hX fun I1 L1 h => ⟨rfl, h⟩) (fun x1 I1 L1 P1 h1 => ?_)
  obtain ⟨rfl, hX1⟩ := h1
  have hM1 := hM.side hX1.far
  refine q_aload_n C (k := 2) dL_law_374 rfl ?_
  refine q_cVl (d := 99) (as := []) (st := [.long (if 2 ≤ W.1 0 0 then lN (allS W.1) else -5)]) (r := 144) (f := f10L I1 L1 P1 (if 2 ≤ W.1 0 0 then lN (allS W.1) else -5) W) C mv_X10_howMany ml_RL_46 dL_law_375 rfl rfl rfl (Nat.le_of_ble_eq_true rfl) hc (ok10_howMany (d := 93) hX1.1.1 hM1 hX.okw fun I2 L2 hF h => ⟨rfl, rfl, hF, h⟩) (fun x2 I2 L2 P2 h2 => ?_)
  obtain ⟨rfl, rfl, hF, hM2⟩ := h2
  exact q_lcmp_eq (tgt := 983) C dL_law_378 dL_law_379 (by decide) (fun _ => k _ _ _ _ ⟨hX1.side hF, hM2⟩) (fun c => absurd rfl c)
/-- stands -/
theorem lw_c7 (C : qCB X RL cL_law 4 100 600000 7302250) (S : qSc X b N xs) (hN : N ≤ 2560) (hi : i + 4 < N) (hc : cells ≤ 600000 ∧ slots ≤ 7302250) (hB : BW I L P W) (k : ∀ I' L' P' W', BW I' L' P' W' → qG X 983 (loL b i) [] SH0 I' L' P' cells slots) : qG X 384 (loL b i) [] SH0 I L P cells slots := by
  obtain ⟨hX, hM⟩ := hB
  refine q_aload_n C (k := 1) dL_law_384 rfl ?_
  refine q_rd C S hN (i := i) (k := 1) (by omega) dL_law_385 dL_law_386 dL_law_387 dL_law_388 dL_law_389 (by decide) ?_
  refine q_rd C S hN (i := i) (k := 2) (by omega) dL_law_390 dL_law_391 dL_law_392 dL_law_393 dL_law_394 (by decide) ?_
  refine q_cVl (d := 99) (as := [.int (xs (i + 1)), .int (xs (i + 2))]) (st := []) (r := 1) (f := f9L I L (standsV W.1 (xs (i + 1)) (xs (i + 2))) W) C mv_X9_stands ml_RL_47 dL_law_395 rfl rfl rfl (Nat.le_of_ble_eq_true rfl) hc (ok9_stands (d := 90) hX fun I1 L1 h => ⟨rfl, h⟩) (fun x1 I1 L1 P1 h1 => ?_)
  obtain ⟨rfl, hX1⟩ := h1
  have hM1 := hM.side hX1.far
  refine q_aload_n C (k := 2) dL_law_398 rfl ?_
  refine q_rd C S hN (i := i) (k := 1) (by omega) dL_law_399 dL_law_400 dL_law_401 dL_law_402 dL_law_403 (by decide) ?_
  refine q_rd C S hN (i := i) (k := 2) (by omega) dL_law_404 dL_law_405 dL_law_406 dL_law_407 dL_law_408 (by decide) ?_
  refine q_cVl (d := 99) (as := [.int (xs (i + 1)), .int (xs (i + 2))]) (st := [.long (standsV W.1 (xs (i + 1)) (xs (i + 2)))]) (r := 144) (f := f10L I1 L1 P1 (standsV W.1 (xs (i + 1)) (xs (i + 2))) W) C mv_X10_stands ml_RL_51 dL_law_409 rfl rfl rfl (Nat.le_of_ble_eq_true rfl) hc (ok10_stands (d := 94) hX1.1.1 hM1 hX.okw fun I2 L2 hF h => ⟨rfl, rfl, hF, h⟩) (fun x2 I2 L2 P2 h2 => ?_)
  obtain ⟨rfl, rfl, hF, hM2⟩ := h2
  exact q_lcmp_eq (tgt := 983) C dL_law_412 dL_law_413 (by decide) (fun _ => k _ _ _ _ ⟨hX1.side hF, hM2⟩) (fun c => absurd rfl c)
/-- meets -/
theorem lw_c8 (C : qCB X RL cL_law 4 100 600000 7302250) (S : qSc X b N xs) (hN : N ≤ 2560) (hi : i + 4 < N) (hc : cells ≤ 600000 ∧ slots ≤ 7302250) (hB : BW I L P W) (k : ∀ I' L' P' W', BW I' L' P' W' → qG X 983 (loL b i) [] SH0 I' L' P' cells slots) : qG X 418 (loL b i) [] SH0 I L P cells slots := by
  obtain ⟨hX, hM⟩ := hB
  refine q_aload_n C (k := 1) dL_law_418 rfl ?_
  refine q_rd C S hN (i := i) (k := 1) (by omega) dL_law_419 dL_law_420 dL_law_421 dL_law_422 dL_law_423 (by decide) ?_
  refine q_rd C S hN (i := i) (k := 2) (by omega) dL_law_424 dL_law_425 dL_law_426 dL_law_427 dL_law_428 (by decide) ?_
  refine q_rd C S hN (i := i) (k := 3) (by omega) dL_law_429 dL_law_430 dL_law_431 dL_law_432 dL_law_433 (by decide) ?_
  refine q_cVl (d := 99) (as := [.int (xs (i + 1)), .int (xs (i + 2)), .int (xs (i + 3))]) (st := []) (r := 1) (f := f9L I L (meetsV W.1 (xs (i + 1)) (xs (i + 2)) (xs (i + 3))) W) C mv_X9_meets ml_RL_52 dL_law_434 rfl rfl rfl (Nat.le_of_ble_eq_true rfl) hc (ok9_meets (d := 90) hX fun I1 L1 h => ⟨rfl, h⟩) (fun x1 I1 L1 P1 h1 => ?_)
  obtain ⟨rfl, hX1⟩ := h1
  have hM1 := hM.side hX1.far
  refine q_aload_n C (k := 2) dL_law_437 rfl ?_
  refine q_rd C S hN (i := i) (k := 1) (by omega) dL_law_438 dL_law_439 dL_law_440 dL_law_441 dL_law_442 (by decide) ?_
  refine q_rd C S hN (i := i) (k := 2) (by omega) dL_law_443 dL_law_444 dL_law_445 dL_law_446 dL_law_447 (by decide) ?_
  refine q_rd C S hN (i := i) (k := 3) (by omega) dL_law_448 dL_law_449 dL_law_450 dL_law_451 dL_law_452 (by decide) ?_
  refine q_cVl (d := 99) (as := [.int (xs (i + 1)), .int (xs (i + 2)), .int (xs (i + 3))]) (st := [.long (meetsV W.1 (xs (i + 1)) (xs (i + 2)) (xs (i + 3)))]) (r := 144) (f := f10L I1 L1 P1 (meetsV W.1 (xs (i + 1)) (xs (i + 2)) (xs (i + 3))) W) C mv_X10_meets ml_RL_56 dL_law_453 rfl rfl rfl (Nat.le_of_ble_eq_true rfl) hc (ok10_meets (d := 93) hX1.1.1 hM1 hX.okw fun I2 L2 hF h => ⟨rfl, rfl, hF, h⟩) (fun x2 I2 L2 P2 h2 => ?_)
  obtain ⟨rfl, rfl, hF, hM2⟩ := h2
  exact q_lcmp_eq (tgt := 983) C dL_law_456 dL_law_457 (by decide) (fun _ => k _ _ _ _ ⟨hX1.side hF, hM2⟩) (fun c => absurd rfl c)
/-- apart -/
theorem lw_c9 (C : qCB X RL cL_law 4 100 600000 7302250) (S : qSc X b N xs) (hN : N ≤ 2560) (hi : i + 4 < N) (hc : cells ≤ 600000 ∧ slots ≤ 7302250) (hB : BW I L P W) (k : ∀ I' L' P' W', BW I' L' P' W' → qG X 983 (loL b i) [] SH0 I' L' P' cells slots) : qG X 462 (loL b i) [] SH0 I L P cells slots := by
  obtain ⟨hX, hM⟩ := hB
  refine q_aload_n C (k := 1) dL_law_462 rfl ?_
  refine q_rd C S hN (i := i) (k := 1) (by omega) dL_law_463 dL_law_464 dL_law_465 dL_law_466 dL_law_467 (by decide) ?_
  refine q_rd C S hN (i := i) (k := 2) (by omega) dL_law_468 dL_law_469 dL_law_470 dL_law_471 dL_law_472 (by decide) ?_
  refine q_cVl (d := 99) (as := [.int (xs (i + 1)), .int (xs (i + 2))]) (st := []) (r := 1) (f := f9L I L (apartV W.1 (xs (i + 1)) (xs (i + 2))) W) C mv_X9_apart ml_RL_57 dL_law_473 rfl rfl rfl (Nat.le_of_ble_eq_true rfl) hc (ok9_apart (d := 90) hX fun I1 L1 h => ⟨rfl, h⟩) (fun x1 I1 L1 P1 h1 => ?_)
  obtain ⟨rfl, hX1⟩ := h1
  have hM1 := hM.side hX1.far
  refine q_aload_n C (k := 2) dL_law_476 rfl ?_
  refine q_rd C S hN (i := i) (k := 1) (by omega) dL_law_477 dL_law_478 dL_law_479 dL_law_480 dL_law_481 (by decide) ?_
  refine q_rd C S hN (i := i) (k := 2) (by omega) dL_law_482 dL_law_483 dL_law_484 dL_law_485 dL_law_486 (by decide) ?_
  refine q_cVl (d := 99) (as := [.int (xs (i + 1)), .int (xs (i + 2))]) (st := [.long (apartV W.1 (xs (i + 1)) (xs (i + 2)))]) (r := 144) (f := f10L I1 L1 P1 (apartV W.1 (xs (i + 1)) (xs (i + 2))) W) C mv_X10_apart ml_RL_60 dL_law_487 rfl rfl rfl (Nat.le_of_ble_eq_true rfl) hc (ok10_apart (d := 93) hX1.1.1 hM1 hX.okw fun I2 L2 hF h => ⟨rfl, rfl, hF, h⟩) (fun x2 I2 L2 P2 h2 => ?_)
  obtain ⟨rfl, rfl, hF, hM2⟩ := h2
  exact q_lcmp_eq (tgt := 983) C dL_law_490 dL_law_491 (by decide) (fun _ => k _ _ _ _ ⟨hX1.side hF, hM2⟩) (fun c => absurd rfl c)
/-- take -/
theorem lw_c10 (C : qCB X RL cL_law 4 100 600000 7302250) (S : qSc X b N xs) (hN : N ≤ 2560) (hi : i + 4 < N) (hc : cells ≤ 600000 ∧ slots ≤ 7302250) (hB : BW I L P W) (k : ∀ I' L' P' W', BW I' L' P' W' → qG X 983 (loL b i) [] SH0 I' L' P' cells slots) : qG X 496 (loL b i) [] SH0 I L P cells slots := by
  obtain ⟨hX, hM⟩ := hB
  refine q_aload_n C (k := 1) dL_law_496 rfl ?_
  refine q_rd C S hN (i := i) (k := 1) (by omega) dL_law_497 dL_law_498 dL_law_499 dL_law_500 dL_law_501 (by decide) ?_
  refine q_i2l C dL_law_502 ?_
  refine q_bipush (v := 32) C dL_law_503 (by decide) ?_
  refine q_lshl C dL_law_505 ?_
  refine q_rd C S hN (i := i) (k := 2) (by omega) dL_law_506 dL_law_507 dL_law_508 dL_law_509 dL_law_510 (by decide) ?_
  refine q_i2l C dL_law_511 ?_
  refine q_ldc2 C kl_RL_61 dL_law_512 ?_
  refine q_land C dL_law_515 ?_
  refine q_lor C dL_law_516 ?_
  refine q_cVi (d := 99) (as := [.long (((xs (i + 1)).toInt64 <<< (Int32.toInt64 32 &&& 63)) ||| ((xs (i + 2)).toInt64 &&& 4294967295))]) (st := []) (r := 1) (f := f9I I L (takeR W (((xs (i + 1)).toInt64 <<< (Int32.toInt64 32 &&& 63)) ||| ((xs (i + 2)).toInt64 &&& 4294967295))).1 (takeR W (((xs (i + 1)).toInt64 <<< (Int32.toInt64 32 &&& 63)) ||| ((xs (i + 2)).toInt64 &&& 4294967295))).2) C mv_X9_take ml_RL_63 dL_law_517 rfl rfl rfl (Nat.le_of_ble_eq_true rfl) hc (ok9_take (d := 91) hX fun I1 L1 P1 h => ⟨rfl, h⟩) (fun x1 I1 L1 P1 h1 => ?_)
  obtain ⟨rfl, hX1⟩ := h1
  have hM1 := hM.side hX1.far
  refine q_aload_n C (k := 2) dL_law_520 rfl ?_
  refine q_rd C S hN (i := i) (k := 1) (by omega) dL_law_521 dL_law_522 dL_law_523 dL_law_524 dL_law_525 (by decide) ?_
  refine q_i2l C dL_law_526 ?_
  refine q_bipush (v := 32) C dL_law_527 (by decide) ?_
  refine q_lshl C dL_law_529 ?_
  refine q_rd C S hN (i := i) (k := 2) (by omega) dL_law_530 dL_law_531 dL_law_532 dL_law_533 dL_law_534 (by decide) ?_
  refine q_i2l C dL_law_535 ?_
  refine q_ldc2 C kl_RL_61 dL_law_536 ?_
  refine q_land C dL_law_539 ?_
  refine q_lor C dL_law_540 ?_
  refine q_cVi (d := 99) (as := [.long (((xs (i + 1)).toInt64 <<< (Int32.toInt64 32 &&& 63)) ||| ((xs (i + 2)).toInt64 &&& 4294967295))]) (st := [.int (takeR W (((xs (i + 1)).toInt64 <<< (Int32.toInt64 32 &&& 63)) ||| ((xs (i + 2)).toInt64 &&& 4294967295))).1]) (r := 144) (f := f10I I1 L1 P1 (takeR W (((xs (i + 1)).toInt64 <<< (Int32.toInt64 32 &&& 63)) ||| ((xs (i + 2)).toInt64 &&& 4294967295))).1 (takeR W (((xs (i + 1)).toInt64 <<< (Int32.toInt64 32 &&& 63)) ||| ((xs (i + 2)).toInt64 &&& 4294967295))).2) C mv_X10_take ml_RL_67 dL_law_541 rfl rfl rfl (Nat.le_of_ble_eq_true rfl) hc (ok10_take (d := 90) hX1.1.1 hM1 hX.okw fun I2 L2 hF h => ⟨rfl, rfl, hF, h⟩) (fun x2 I2 L2 P2 h2 => ?_)
  obtain ⟨rfl, rfl, hF, hM2⟩ := h2
  exact q_icmp_eq (tgt := 983) C dL_law_544 (by decide) (fun _ => k _ _ _ _ ⟨hX1.side hF, hM2⟩) (fun c => absurd rfl c)
/-- drawn -/
theorem lw_c11 (C : qCB X RL cL_law 4 100 600000 7302250) (S : qSc X b N xs) (hN : N ≤ 2560) (hi : i + 4 < N) (hc : cells ≤ 600000 ∧ slots ≤ 7302250) (hB : BW I L P W) (k : ∀ I' L' P' W', BW I' L' P' W' → qG X 983 (loL b i) [] SH0 I' L' P' cells slots) : qG X 549 (loL b i) [] SH0 I L P cells slots := by
  obtain ⟨hX, hM⟩ := hB
  refine q_aload_n C (k := 1) dL_law_549 rfl ?_
  refine q_rd C S hN (i := i) (k := 1) (by omega) dL_law_550 dL_law_551 dL_law_552 dL_law_553 dL_law_554 (by decide) ?_
  refine q_cVl (d := 99) (as := [.int (xs (i + 1))]) (st := []) (r := 1) (f := f9L I L (drawnR W (xs (i + 1))).1 (drawnR W (xs (i + 1))).2) C mv_X9_drawn ml_RL_68 dL_law_555 rfl rfl rfl (Nat.le_of_ble_eq_true rfl) hc (ok9_drawn (d := 91) hX fun I1 L1 P1 h => ⟨rfl, h⟩) (fun x1 I1 L1 P1 h1 => ?_)
  obtain ⟨rfl, hX1⟩ := h1
  have hM1 := hM.side hX1.far
  refine q_aload_n C (k := 2) dL_law_558 rfl ?_
  refine q_rd C S hN (i := i) (k := 1) (by omega) dL_law_559 dL_law_560 dL_law_561 dL_law_562 dL_law_563 (by decide) ?_
  refine q_cVl (d := 99) (as := [.int (xs (i + 1))]) (st := [.long (drawnR W (xs (i + 1))).1]) (r := 144) (f := f10L I1 L1 P1 (drawnR W (xs (i + 1))).1 (drawnR W (xs (i + 1))).2) C mv_X10_drawn ml_RL_72 dL_law_564 rfl rfl rfl (Nat.le_of_ble_eq_true rfl) hc (ok10_drawn (d := 90) hX1.1.1 hM1 hX.okw fun I2 L2 hF h => ⟨rfl, rfl, hF, h⟩) (fun x2 I2 L2 P2 h2 => ?_)
  obtain ⟨rfl, rfl, hF, hM2⟩ := h2
  exact q_lcmp_eq (tgt := 983) C dL_law_567 dL_law_568 (by decide) (fun _ => k _ _ _ _ ⟨hX1.side hF, hM2⟩) (fun c => absurd rfl c)
/-- slot -/
theorem lw_c12 (C : qCB X RL cL_law 4 100 600000 7302250) (S : qSc X b N xs) (hN : N ≤ 2560) (hi : i + 4 < N) (hc : cells ≤ 600000 ∧ slots ≤ 7302250) (hB : BW I L P W) (k : ∀ I' L' P' W', BW I' L' P' W' → qG X 983 (loL b i) [] SH0 I' L' P' cells slots) : qG X 573 (loL b i) [] SH0 I L P cells slots := by
  obtain ⟨hX, hM⟩ := hB
  refine q_aload_n C (k := 1) dL_law_573 rfl ?_
  refine q_rd C S hN (i := i) (k := 1) (by omega) dL_law_574 dL_law_575 dL_law_576 dL_law_577 dL_law_578 (by decide) ?_
  refine q_cVi (d := 99) (as := [.int (xs (i + 1))]) (st := []) (r := 1) (f := f9I I L (slotV W.1 (xs (i + 1))) W) C mv_X9_slot ml_RL_73 dL_law_579 rfl rfl rfl (Nat.le_of_ble_eq_true rfl) hc (ok9_slot (d := 96) hX.1.1 hX.2.1 hX.2.2.1 ⟨rfl, hX⟩) (fun x1 I1 L1 P1 h1 => ?_)
  obtain ⟨rfl, hX1⟩ := h1
  have hM1 := hM.side hX1.far
  refine q_aload_n C (k := 2) dL_law_582 rfl ?_
  refine q_rd C S hN (i := i) (k := 1) (by omega) dL_law_583 dL_law_584 dL_law_585 dL_law_586 dL_law_587 (by decide) ?_
  refine q_cVi (d := 99) (as := [.int (xs (i + 1))]) (st := [.int (slotV W.1 (xs (i + 1)))]) (r := 144) (f := f10I I1 L1 P1 (slotV W.1 (xs (i + 1))) W) C mv_X10_slot ml_RL_76 dL_law_588 rfl rfl rfl (Nat.le_of_ble_eq_true rfl) hc (ok10_slot (d := 96) hX1.1.1 hM1.1 hX.2.2.1 ⟨rfl, rfl, FR.refl _ _, hM1⟩) (fun x2 I2 L2 P2 h2 => ?_)
  obtain ⟨rfl, rfl, hF, hM2⟩ := h2
  exact q_icmp_eq (tgt := 983) C dL_law_591 (by decide) (fun _ => k _ _ _ _ ⟨hX1.side hF, hM2⟩) (fun c => absurd rfl c)
/-- where -/
theorem lw_c13 (C : qCB X RL cL_law 4 100 600000 7302250) (S : qSc X b N xs) (hN : N ≤ 2560) (hi : i + 4 < N) (hc : cells ≤ 600000 ∧ slots ≤ 7302250) (hB : BW I L P W) (k : ∀ I' L' P' W', BW I' L' P' W' → qG X 983 (loL b i) [] SH0 I' L' P' cells slots) : qG X 596 (loL b i) [] SH0 I L P cells slots := by
  obtain ⟨hX, hM⟩ := hB
  refine q_aload_n C (k := 1) dL_law_596 rfl ?_
  refine q_rd C S hN (i := i) (k := 1) (by omega) dL_law_597 dL_law_598 dL_law_599 dL_law_600 dL_law_601 (by decide) ?_
  refine q_cVi (d := 99) (as := [.int (xs (i + 1))]) (st := []) (r := 1) (f := f9I I L (whereV W.1 (xs (i + 1))) W) C mv_X9_where ml_RL_77 dL_law_602 rfl rfl rfl (Nat.le_of_ble_eq_true rfl) hc (ok9_where (d := 95) hX.1.1 hX.2.1 hX.2.2.1 ⟨rfl, hX⟩) (fun x1 I1 L1 P1 h1 => ?_)
  obtain ⟨rfl, hX1⟩ := h1
  have hM1 := hM.side hX1.far
  refine q_aload_n C (k := 2) dL_law_605 rfl ?_
  refine q_rd C S hN (i := i) (k := 1) (by omega) dL_law_606 dL_law_607 dL_law_608 dL_law_609 dL_law_610 (by decide) ?_
  refine q_cVi (d := 99) (as := [.int (xs (i + 1))]) (st := [.int (whereV W.1 (xs (i + 1)))]) (r := 144) (f := f10I I1 L1 P1 (whereV W.1 (xs (i + 1))) W) C mv_X10_where ml_RL_80 dL_law_611 rfl rfl rfl (Nat.le_of_ble_eq_true rfl) hc (ok10_where (d := 96) hX1.1.1 hM1.1 hX.2.2.1 ⟨rfl, rfl, FR.refl _ _, hM1⟩) (fun x2 I2 L2 P2 h2 => ?_)
  obtain ⟨rfl, rfl, hF, hM2⟩ := h2
  exact q_icmp_eq (tgt := 983) C dL_law_614 (by decide) (fun _ => k _ _ _ _ ⟨hX1.side hF, hM2⟩) (fun c => absurd rfl c)
/-- number -/
theorem lw_c14 (C : qCB X RL cL_law 4 100 600000 7302250) (S : qSc X b N xs) (hN : N ≤ 2560) (hi : i + 4 < N) (hc : cells ≤ 600000 ∧ slots ≤ 7302250) (hB : BW I L P W) (k : ∀ I' L' P' W', BW I' L' P' W' → qG X 983 (loL b i) [] SH0 I' L' P' cells slots) : qG X 619 (loL b i) [] SH0 I L P cells slots := by
  obtain ⟨hX, hM⟩ := hB
  refine q_aload_n C (k := 1) dL_law_619 rfl ?_
  refine q_cVl (d := 99) (as := []) (st := []) (r := 1) (f := f9L I L (numberV W.1) W) C mv_X9_number ml_RL_81 dL_law_620 rfl rfl rfl (Nat.le_of_ble_eq_true rfl) hc (ok9_number (d := 98) hX.1.1 hX.2.1 hX.2.2.1 ⟨rfl, hX⟩) (fun x1 I1 L1 P1 h1 => ?_)
  obtain ⟨rfl, hX1⟩ := h1
  have hM1 := hM.side hX1.far
  refine q_aload_n C (k := 2) dL_law_623 rfl ?_
  refine q_cVl (d := 99) (as := []) (st := [.long (numberV W.1)]) (r := 144) (f := f10L I1 L1 P1 (numberV W.1) W) C mv_X10_number ml_RL_84 dL_law_624 rfl rfl rfl (Nat.le_of_ble_eq_true rfl) hc (ok10_number (d := 91) hX1.1.1 hM1 hX.okw fun I2 L2 hF h => ⟨rfl, rfl, hF, h⟩) (fun x2 I2 L2 P2 h2 => ?_)
  obtain ⟨rfl, rfl, hF, hM2⟩ := h2
  exact q_lcmp_eq (tgt := 983) C dL_law_627 dL_law_628 (by decide) (fun _ => k _ _ _ _ ⟨hX1.side hF, hM2⟩) (fun c => absurd rfl c)
/-- swapped -/
theorem lw_c15 (C : qCB X RL cL_law 4 100 600000 7302250) (S : qSc X b N xs) (hN : N ≤ 2560) (hi : i + 4 < N) (hc : cells ≤ 600000 ∧ slots ≤ 7302250) (hB : BW I L P W) (k : ∀ I' L' P' W', BW I' L' P' W' → qG X 983 (loL b i) [] SH0 I' L' P' cells slots) : qG X 633 (loL b i) [] SH0 I L P cells slots := by
  obtain ⟨hX, hM⟩ := hB
  refine q_aload_n C (k := 1) dL_law_633 rfl ?_
  refine q_rd C S hN (i := i) (k := 1) (by omega) dL_law_634 dL_law_635 dL_law_636 dL_law_637 dL_law_638 (by decide) ?_
  refine q_rd C S hN (i := i) (k := 2) (by omega) dL_law_639 dL_law_640 dL_law_641 dL_law_642 dL_law_643 (by decide) ?_
  refine q_cVl (d := 99) (as := [.int (xs (i + 1)), .int (xs (i + 2))]) (st := []) (r := 1) (f := f9L I L (swapV W.1 (xs (i + 1)) (xs (i + 2))) W) C mv_X9_swapped ml_RL_85 dL_law_644 rfl rfl rfl (Nat.le_of_ble_eq_true rfl) hc (ok9_swapped (d := 90) hX fun I1 L1 h => ⟨rfl, h⟩) (fun x1 I1 L1 P1 h1 => ?_)
  obtain ⟨rfl, hX1⟩ := h1
  have hM1 := hM.side hX1.far
  refine q_aload_n C (k := 2) dL_law_647 rfl ?_
  refine q_rd C S hN (i := i) (k := 1) (by omega) dL_law_648 dL_law_649 dL_law_650 dL_law_651 dL_law_652 (by decide) ?_
  refine q_rd C S hN (i := i) (k := 2) (by omega) dL_law_653 dL_law_654 dL_law_655 dL_law_656 dL_law_657 (by decide) ?_
  refine q_cVl (d := 99) (as := [.int (xs (i + 1)), .int (xs (i + 2))]) (st := [.long (swapV W.1 (xs (i + 1)) (xs (i + 2)))]) (r := 144) (f := f10L I1 L1 P1 (swapV W.1 (xs (i + 1)) (xs (i + 2))) W) C mv_X10_swapped ml_RL_88 dL_law_658 rfl rfl rfl (Nat.le_of_ble_eq_true rfl) hc (ok10_swapped (d := 91) hX1.1.1 hM1 hX.okw fun I2 L2 hF h => ⟨rfl, rfl, hF, h⟩) (fun x2 I2 L2 P2 h2 => ?_)
  obtain ⟨rfl, rfl, hF, hM2⟩ := h2
  exact q_lcmp_eq (tgt := 983) C dL_law_661 dL_law_662 (by decide) (fun _ => k _ _ _ _ ⟨hX1.side hF, hM2⟩) (fun c => absurd rfl c)
/-- soonest -/
theorem lw_c16 (C : qCB X RL cL_law 4 100 600000 7302250) (S : qSc X b N xs) (hN : N ≤ 2560) (hi : i + 4 < N) (hc : cells ≤ 600000 ∧ slots ≤ 7302250) (hB : BW I L P W) (k : ∀ I' L' P' W', BW I' L' P' W' → qG X 983 (loL b i) [] SH0 I' L' P' cells slots) : qG X 667 (loL b i) [] SH0 I L P cells slots := by
  obtain ⟨hX, hM⟩ := hB
  refine q_aload_n C (k := 1) dL_law_667 rfl ?_
  refine q_rd C S hN (i := i) (k := 1) (by omega) dL_law_668 dL_law_669 dL_law_670 dL_law_671 dL_law_672 (by decide) ?_
  refine q_rd C S hN (i := i) (k := 2) (by omega) dL_law_673 dL_law_674 dL_law_675 dL_law_676 dL_law_677 (by decide) ?_
  refine q_cVi (d := 99) (as := [.int (xs (i + 1)), .int (xs (i + 2))]) (st := []) (r := 1) (f := f9I I L (soonV W.1 (xs (i + 1)) (xs (i + 2))) W) C mv_X9_soonest ml_RL_89 dL_law_678 rfl rfl rfl (Nat.le_of_ble_eq_true rfl) hc (ok9_soonest (d := 94) hX.1.1 hX.2.1 hX.2.2.1 ⟨rfl, hX⟩) (fun x1 I1 L1 P1 h1 => ?_)
  obtain ⟨rfl, hX1⟩ := h1
  have hM1 := hM.side hX1.far
  refine q_aload_n C (k := 2) dL_law_681 rfl ?_
  refine q_rd C S hN (i := i) (k := 1) (by omega) dL_law_682 dL_law_683 dL_law_684 dL_law_685 dL_law_686 (by decide) ?_
  refine q_rd C S hN (i := i) (k := 2) (by omega) dL_law_687 dL_law_688 dL_law_689 dL_law_690 dL_law_691 (by decide) ?_
  refine q_cVi (d := 99) (as := [.int (xs (i + 1)), .int (xs (i + 2))]) (st := [.int (soonV W.1 (xs (i + 1)) (xs (i + 2)))]) (r := 144) (f := f10I I1 L1 P1 (soonV W.1 (xs (i + 1)) (xs (i + 2))) W) C mv_X10_soonest ml_RL_92 dL_law_692 rfl rfl rfl (Nat.le_of_ble_eq_true rfl) hc (ok10_soonest (d := 96) hX1.1.1 hM1.1 hX.2.2.1 ⟨rfl, rfl, FR.refl _ _, hM1⟩) (fun x2 I2 L2 P2 h2 => ?_)
  obtain ⟨rfl, rfl, hF, hM2⟩ := h2
  exact q_icmp_eq (tgt := 983) C dL_law_695 (by decide) (fun _ => k _ _ _ _ ⟨hX1.side hF, hM2⟩) (fun c => absurd rfl c)
/-- relaxed -/
theorem lw_c17 (C : qCB X RL cL_law 4 100 600000 7302250) (S : qSc X b N xs) (hN : N ≤ 2560) (hi : i + 4 < N) (hc : cells ≤ 600000 ∧ slots ≤ 7302250) (hB : BW I L P W) (k : ∀ I' L' P' W', BW I' L' P' W' → qG X 983 (loL b i) [] SH0 I' L' P' cells slots) : qG X 700 (loL b i) [] SH0 I L P cells slots := by
  obtain ⟨hX, hM⟩ := hB
  refine q_aload_n C (k := 1) dL_law_700 rfl ?_
  refine q_rd C S hN (i := i) (k := 1) (by omega) dL_law_701 dL_law_702 dL_law_703 dL_law_704 dL_law_705 (by decide) ?_
  refine q_cVi (d := 99) (as := [.int (xs (i + 1))]) (st := []) (r := 1) (f := f9I I L (relaxR W (xs (i + 1))).1 (relaxR W (xs (i + 1))).2) C mv_X9_relaxed ml_RL_93 dL_law_706 rfl rfl rfl (Nat.le_of_ble_eq_true rfl) hc (ok9_relaxed (d := 91) hX fun I1 L1 P1 h => ⟨rfl, h⟩) (fun x1 I1 L1 P1 h1 => ?_)
  obtain ⟨rfl, hX1⟩ := h1
  have hM1 := hM.side hX1.far
  refine q_aload_n C (k := 2) dL_law_709 rfl ?_
  refine q_rd C S hN (i := i) (k := 1) (by omega) dL_law_710 dL_law_711 dL_law_712 dL_law_713 dL_law_714 (by decide) ?_
  refine q_cVi (d := 99) (as := [.int (xs (i + 1))]) (st := [.int (relaxR W (xs (i + 1))).1]) (r := 144) (f := f10I I1 L1 P1 (relaxR W (xs (i + 1))).1 (relaxR W (xs (i + 1))).2) C mv_X10_relaxed ml_RL_96 dL_law_715 rfl rfl rfl (Nat.le_of_ble_eq_true rfl) hc (ok10_relaxed (d := 93) hX1.1.1 hM1 hX.okw fun I2 L2 hF h => ⟨rfl, rfl, hF, h⟩) (fun x2 I2 L2 P2 h2 => ?_)
  obtain ⟨rfl, rfl, hF, hM2⟩ := h2
  exact q_icmp_eq (tgt := 983) C dL_law_718 (by decide) (fun _ => k _ _ _ _ ⟨hX1.side hF, hM2⟩) (fun c => absurd rfl c)
/-- play -/
theorem lw_c18 (C : qCB X RL cL_law 4 100 600000 7302250) (S : qSc X b N xs) (hN : N ≤ 2560) (hi : i + 4 < N) (hc : cells ≤ 600000 ∧ slots ≤ 7302250) (hB : BW I L P W) (k : ∀ I' L' P' W', BW I' L' P' W' → qG X 983 (loL b i) [] SH0 I' L' P' cells slots) : qG X 723 (loL b i) [] SH0 I L P cells slots := by
  obtain ⟨hX, hM⟩ := hB
  refine q_aload_n C (k := 1) dL_law_723 rfl ?_
  refine q_cVi (d := 99) (as := []) (st := []) (r := 1) (f := f9I I L (playR W).1 (playR W).2) C mv_X9_play ml_RL_97 dL_law_724 rfl rfl rfl (Nat.le_of_ble_eq_true rfl) hc (ok9_play (d := 93) hX fun I1 L1 P1 h => ⟨rfl, h⟩) (fun x1 I1 L1 P1 h1 => ?_)
  obtain ⟨rfl, hX1⟩ := h1
  have hM1 := hM.side hX1.far
  refine q_aload_n C (k := 2) dL_law_727 rfl ?_
  refine q_cVi (d := 99) (as := []) (st := [.int (playR W).1]) (r := 144) (f := f10I I1 L1 P1 (playR W).1 (playR W).2) C mv_X10_play ml_RL_100 dL_law_728 rfl rfl rfl (Nat.le_of_ble_eq_true rfl) hc (ok10_play (d := 95) hX1.1.1 hM1 hX.okw fun I2 L2 hF h => ⟨rfl, rfl, hF, h⟩) (fun x2 I2 L2 P2 h2 => ?_)
  obtain ⟨rfl, rfl, hF, hM2⟩ := h2
  exact q_icmp_eq (tgt := 983) C dL_law_731 (by decide) (fun _ => k _ _ _ _ ⟨hX1.side hF, hM2⟩) (fun c => absurd rfl c)
/-- byHand -/
theorem lw_c19 (C : qCB X RL cL_law 4 100 600000 7302250) (S : qSc X b N xs) (hN : N ≤ 2560) (hi : i + 4 < N) (hc : cells ≤ 600000 ∧ slots ≤ 7302250) (hB : BW I L P W) (k : ∀ I' L' P' W', BW I' L' P' W' → qG X 983 (loL b i) [] SH0 I' L' P' cells slots) : qG X 736 (loL b i) [] SH0 I L P cells slots := by
  obtain ⟨hX, hM⟩ := hB
  refine q_aload_n C (k := 1) dL_law_736 rfl ?_
  refine q_rd C S hN (i := i) (k := 1) (by omega) dL_law_737 dL_law_738 dL_law_739 dL_law_740 dL_law_741 (by decide) ?_
  refine q_cVi (d := 99) (as := [.int (xs (i + 1))]) (st := []) (r := 1) (f := f9I I L (byHandR W (xs (i + 1))).1 (byHandR W (xs (i + 1))).2) C mv_X9_byHand ml_RL_101 dL_law_742 rfl rfl rfl (Nat.le_of_ble_eq_true rfl) hc (ok9_byHand (d := 93) hX fun I1 L1 P1 h => ⟨rfl, h⟩) (fun x1 I1 L1 P1 h1 => ?_)
  obtain ⟨rfl, hX1⟩ := h1
  have hM1 := hM.side hX1.far
  refine q_aload_n C (k := 2) dL_law_745 rfl ?_
  refine q_rd C S hN (i := i) (k := 1) (by omega) dL_law_746 dL_law_747 dL_law_748 dL_law_749 dL_law_750 (by decide) ?_
  refine q_cVi (d := 99) (as := [.int (xs (i + 1))]) (st := [.int (byHandR W (xs (i + 1))).1]) (r := 144) (f := f10I I1 L1 P1 (byHandR W (xs (i + 1))).1 (byHandR W (xs (i + 1))).2) C mv_X10_byHand ml_RL_104 dL_law_751 rfl rfl rfl (Nat.le_of_ble_eq_true rfl) hc (ok10_byHand (d := 95) hX1.1.1 hM1 hX.okw fun I2 L2 hF h => ⟨rfl, rfl, hF, h⟩) (fun x2 I2 L2 P2 h2 => ?_)
  obtain ⟨rfl, rfl, hF, hM2⟩ := h2
  exact q_icmp_eq (tgt := 983) C dL_law_754 (by decide) (fun _ => k _ _ _ _ ⟨hX1.side hF, hM2⟩) (fun c => absurd rfl c)
/-- through -/
theorem lw_c20 (C : qCB X RL cL_law 4 100 600000 7302250) (S : qSc X b N xs) (hN : N ≤ 2560) (hi : i + 4 < N) (hc : cells ≤ 600000 ∧ slots ≤ 7302250) (hB : BW I L P W) (k : ∀ I' L' P' W', BW I' L' P' W' → qG X 983 (loL b i) [] SH0 I' L' P' cells slots) : qG X 759 (loL b i) [] SH0 I L P cells slots := by
  obtain ⟨hX, hM⟩ := hB
  refine q_aload_n C (k := 1) dL_law_759 rfl ?_
  refine q_rd C S hN (i := i) (k := 1) (by omega) dL_law_760 dL_law_761 dL_law_762 dL_law_763 dL_law_764 (by decide) ?_
  refine q_rd C S hN (i := i) (k := 2) (by omega) dL_law_765 dL_law_766 dL_law_767 dL_law_768 dL_law_769 (by decide) ?_
  refine q_cVi (d := 99) (as := [.int (xs (i + 1)), .int (xs (i + 2))]) (st := []) (r := 1) (f := f9I I L (throughV W.1 (xs (i + 1)) (xs (i + 2))) W) C mv_X9_through ml_RL_105 dL_law_770 rfl rfl rfl (Nat.le_of_ble_eq_true rfl) hc (ok9_through (d := 95) hX.1.1 hX.2.1 hX.2.2.1 ⟨rfl, hX⟩) (fun x1 I1 L1 P1 h1 => ?_)
  obtain ⟨rfl, hX1⟩ := h1
  have hM1 := hM.side hX1.far
  refine q_aload_n C (k := 2) dL_law_773 rfl ?_
  refine q_rd C S hN (i := i) (k := 1) (by omega) dL_law_774 dL_law_775 dL_law_776 dL_law_777 dL_law_778 (by decide) ?_
  refine q_rd C S hN (i := i) (k := 2) (by omega) dL_law_779 dL_law_780 dL_law_781 dL_law_782 dL_law_783 (by decide) ?_
  refine q_cVi (d := 99) (as := [.int (xs (i + 1)), .int (xs (i + 2))]) (st := [.int (throughV W.1 (xs (i + 1)) (xs (i + 2)))]) (r := 144) (f := f10I I1 L1 P1 (throughV W.1 (xs (i + 1)) (xs (i + 2))) W) C mv_X10_through ml_RL_108 dL_law_784 rfl rfl rfl (Nat.le_of_ble_eq_true rfl) hc (ok10_through (d := 96) hX1.1.1 hM1.1 hX.2.2.1 ⟨rfl, rfl, FR.refl _ _, hM1⟩) (fun x2 I2 L2 P2 h2 => ?_)
  obtain ⟨rfl, rfl, hF, hM2⟩ := h2
  exact q_icmp_eq (tgt := 983) C dL_law_787 (by decide) (fun _ => k _ _ _ _ ⟨hX1.side hF, hM2⟩) (fun c => absurd rfl c)
/-- met -/
theorem lw_c21 (C : qCB X RL cL_law 4 100 600000 7302250) (S : qSc X b N xs) (hN : N ≤ 2560) (hi : i + 4 < N) (hc : cells ≤ 600000 ∧ slots ≤ 7302250) (hB : BW I L P W) (k : ∀ I' L' P' W', BW I' L' P' W' → qG X 983 (loL b i) [] SH0 I' L' P' cells slots) : qG X 792 (loL b i) [] SH0 I L P cells slots := by
  obtain ⟨hX, hM⟩ := hB
  refine q_aload_n C (k := 1) dL_law_792 rfl ?_
  refine q_rd C S hN (i := i) (k := 1) (by omega) dL_law_793 dL_law_794 dL_law_795 dL_law_796 dL_law_797 (by decide) ?_
  refine q_rd C S hN (i := i) (k := 2) (by omega) dL_law_798 dL_law_799 dL_law_800 dL_law_801 dL_law_802 (by decide) ?_
  refine q_cVi (d := 99) (as := [.int (xs (i + 1)), .int (xs (i + 2))]) (st := []) (r := 1) (f := f9I I L (metV W.1 (xs (i + 1)) (xs (i + 2))) W) C mv_X9_met ml_RL_109 dL_law_803 rfl rfl rfl (Nat.le_of_ble_eq_true rfl) hc (ok9_met (d := 93) hX.1.1 hX.2.1 hX.2.2.1 ⟨rfl, hX⟩) (fun x1 I1 L1 P1 h1 => ?_)
  obtain ⟨rfl, hX1⟩ := h1
  have hM1 := hM.side hX1.far
  refine q_aload_n C (k := 2) dL_law_806 rfl ?_
  refine q_rd C S hN (i := i) (k := 1) (by omega) dL_law_807 dL_law_808 dL_law_809 dL_law_810 dL_law_811 (by decide) ?_
  refine q_rd C S hN (i := i) (k := 2) (by omega) dL_law_812 dL_law_813 dL_law_814 dL_law_815 dL_law_816 (by decide) ?_
  refine q_cVi (d := 99) (as := [.int (xs (i + 1)), .int (xs (i + 2))]) (st := [.int (metV W.1 (xs (i + 1)) (xs (i + 2)))]) (r := 144) (f := f10I I1 L1 P1 (metV W.1 (xs (i + 1)) (xs (i + 2))) W) C mv_X10_met ml_RL_112 dL_law_817 rfl rfl rfl (Nat.le_of_ble_eq_true rfl) hc (ok10_met (d := 95) hX1.1.1 hM1.1 hX.2.2.1 ⟨rfl, rfl, FR.refl _ _, hM1⟩) (fun x2 I2 L2 P2 h2 => ?_)
  obtain ⟨rfl, rfl, hF, hM2⟩ := h2
  exact q_icmp_eq (tgt := 983) C dL_law_820 (by decide) (fun _ => k _ _ _ _ ⟨hX1.side hF, hM2⟩) (fun c => absurd rfl c)
/-- winner -/
theorem lw_c22 (C : qCB X RL cL_law 4 100 600000 7302250) (S : qSc X b N xs) (hN : N ≤ 2560) (hi : i + 4 < N) (hc : cells ≤ 600000 ∧ slots ≤ 7302250) (hB : BW I L P W) (k : ∀ I' L' P' W', BW I' L' P' W' → qG X 983 (loL b i) [] SH0 I' L' P' cells slots) : qG X 825 (loL b i) [] SH0 I L P cells slots := by
  obtain ⟨hX, hM⟩ := hB
  refine q_aload_n C (k := 1) dL_law_825 rfl ?_
  refine q_cVi (d := 99) (as := []) (st := []) (r := 1) (f := f9I I L (winnerV W.1) W) C mv_X9_winner ml_RL_113 dL_law_826 rfl rfl rfl (Nat.le_of_ble_eq_true rfl) hc (ok9_winner (d := 93) hX fun I1 L1 h => ⟨rfl, h⟩) (fun x1 I1 L1 P1 h1 => ?_)
  obtain ⟨rfl, hX1⟩ := h1
  have hM1 := hM.side hX1.far
  refine q_aload_n C (k := 2) dL_law_829 rfl ?_
  refine q_cVi (d := 99) (as := []) (st := [.int (winnerV W.1)]) (r := 144) (f := f10I I1 L1 P1 (winnerV W.1) W) C mv_X10_winner ml_RL_116 dL_law_830 rfl rfl rfl (Nat.le_of_ble_eq_true rfl) hc (ok10_winner (d := 95) hX1.1.1 hM1 hX.okw fun I2 L2 hF h => ⟨rfl, rfl, hF, h⟩) (fun x2 I2 L2 P2 h2 => ?_)
  obtain ⟨rfl, rfl, hF, hM2⟩ := h2
  exact q_icmp_eq (tgt := 983) C dL_law_833 (by decide) (fun _ => k _ _ _ _ ⟨hX1.side hF, hM2⟩) (fun c => absurd rfl c)
/-- wins -/
theorem lw_c23 (C : qCB X RL cL_law 4 100 600000 7302250) (S : qSc X b N xs) (hN : N ≤ 2560) (hi : i + 4 < N) (hc : cells ≤ 600000 ∧ slots ≤ 7302250) (hB : BW I L P W) (k : ∀ I' L' P' W', BW I' L' P' W' → qG X 983 (loL b i) [] SH0 I' L' P' cells slots) : qG X 838 (loL b i) [] SH0 I L P cells slots := by
  obtain ⟨hX, hM⟩ := hB
  refine q_aload_n C (k := 1) dL_law_838 rfl ?_
  refine q_rd C S hN (i := i) (k := 1) (by omega) dL_law_839 dL_law_840 dL_law_841 dL_law_842 dL_law_843 (by decide) ?_
  refine q_cVl (d := 99) (as := [.int (xs (i + 1))]) (st := []) (r := 1) (f := f9L I L (winsV W.1 (xs (i + 1))) W) C mv_X9_wins ml_RL_117 dL_law_844 rfl rfl rfl (Nat.le_of_ble_eq_true rfl) hc (ok9_wins (d := 91) hX fun I1 L1 h => ⟨rfl, h⟩) (fun x1 I1 L1 P1 h1 => ?_)
  obtain ⟨rfl, hX1⟩ := h1
  have hM1 := hM.side hX1.far
  refine q_aload_n C (k := 2) dL_law_847 rfl ?_
  refine q_rd C S hN (i := i) (k := 1) (by omega) dL_law_848 dL_law_849 dL_law_850 dL_law_851 dL_law_852 (by decide) ?_
  refine q_cVl (d := 99) (as := [.int (xs (i + 1))]) (st := [.long (winsV W.1 (xs (i + 1)))]) (r := 144) (f := f10L I1 L1 P1 (winsV W.1 (xs (i + 1))) W) C mv_X10_wins ml_RL_120 dL_law_853 rfl rfl rfl (Nat.le_of_ble_eq_true rfl) hc (ok10_wins (d := 93) hX1.1.1 hM1 hX.okw fun I2 L2 hF h => ⟨rfl, rfl, hF, h⟩) (fun x2 I2 L2 P2 h2 => ?_)
  obtain ⟨rfl, rfl, hF, hM2⟩ := h2
  exact q_lcmp_eq (tgt := 983) C dL_law_856 dL_law_857 (by decide) (fun _ => k _ _ _ _ ⟨hX1.side hF, hM2⟩) (fun c => absurd rfl c)
/-- print -/
theorem lw_c24 (C : qCB X RL cL_law 4 100 600000 7302250) (S : qSc X b N xs) (hN : N ≤ 2560) (hi : i + 4 < N) (hc : cells ≤ 600000 ∧ slots ≤ 7302250) (hB : BW I L P W) (k : ∀ I' L' P' W', BW I' L' P' W' → qG X 983 (loL b i) [] SH0 I' L' P' cells slots) : qG X 862 (loL b i) [] SH0 I L P cells slots := by
  obtain ⟨hX, hM⟩ := hB
  refine q_aload_n C (k := 1) dL_law_862 rfl ?_
  refine q_rd C S hN (i := i) (k := 1) (by omega) dL_law_863 dL_law_864 dL_law_865 dL_law_866 dL_law_867 (by decide) ?_
  refine q_cVi (d := 99) (as := [.int (xs (i + 1))]) (st := []) (r := 1) (f := f9I I L (printV W.1 (xs (i + 1))) W) C mv_X9_print ml_RL_121 dL_law_868 rfl rfl rfl (Nat.le_of_ble_eq_true rfl) hc (ok9_print (d := 95) hX.1.1 hX.2.1 hX.2.2.1 ⟨rfl, hX⟩) (fun x1 I1 L1 P1 h1 => ?_)
  obtain ⟨rfl, hX1⟩ := h1
  have hM1 := hM.side hX1.far
  refine q_aload_n C (k := 2) dL_law_871 rfl ?_
  refine q_rd C S hN (i := i) (k := 1) (by omega) dL_law_872 dL_law_873 dL_law_874 dL_law_875 dL_law_876 (by decide) ?_
  refine q_cVi (d := 99) (as := [.int (xs (i + 1))]) (st := [.int (printV W.1 (xs (i + 1)))]) (r := 144) (f := f10I I1 L1 P1 (printV W.1 (xs (i + 1))) W) C mv_X10_print ml_RL_124 dL_law_877 rfl rfl rfl (Nat.le_of_ble_eq_true rfl) hc (ok10_print (d := 96) hX1.1.1 hM1.1 hX.2.2.1 ⟨rfl, rfl, FR.refl _ _, hM1⟩) (fun x2 I2 L2 P2 h2 => ?_)
  obtain ⟨rfl, rfl, hF, hM2⟩ := h2
  exact q_icmp_eq (tgt := 983) C dL_law_880 (by decide) (fun _ => k _ _ _ _ ⟨hX1.side hF, hM2⟩) (fun c => absurd rfl c)
/-- brackets -/
theorem lw_c25 (C : qCB X RL cL_law 4 100 600000 7302250) (S : qSc X b N xs) (hN : N ≤ 2560) (hi : i + 4 < N) (hc : cells ≤ 600000 ∧ slots ≤ 7302250) (hB : BW I L P W) (k : ∀ I' L' P' W', BW I' L' P' W' → qG X 983 (loL b i) [] SH0 I' L' P' cells slots) : qG X 885 (loL b i) [] SH0 I L P cells slots := by
  obtain ⟨hX, hM⟩ := hB
  refine q_aload_n C (k := 1) dL_law_885 rfl ?_
  refine q_rd C S hN (i := i) (k := 1) (by omega) dL_law_886 dL_law_887 dL_law_888 dL_law_889 dL_law_890 (by decide) ?_
  refine q_cVi (d := 99) (as := [.int (xs (i + 1))]) (st := []) (r := 1) (f := f9I I L (brackV W.1 (xs (i + 1))) W) C mv_X9_brackets ml_RL_125 dL_law_891 rfl rfl rfl (Nat.le_of_ble_eq_true rfl) hc (ok9_brackets (d := 94) hX.1.1 hX.2.1 hX.2.2.1 ⟨rfl, hX⟩) (fun x1 I1 L1 P1 h1 => ?_)
  obtain ⟨rfl, hX1⟩ := h1
  have hM1 := hM.side hX1.far
  refine q_aload_n C (k := 2) dL_law_894 rfl ?_
  refine q_rd C S hN (i := i) (k := 1) (by omega) dL_law_895 dL_law_896 dL_law_897 dL_law_898 dL_law_899 (by decide) ?_
  refine q_cVi (d := 99) (as := [.int (xs (i + 1))]) (st := [.int (brackV W.1 (xs (i + 1)))]) (r := 144) (f := f10I I1 L1 P1 (brackV W.1 (xs (i + 1))) W) C mv_X10_brackets ml_RL_128 dL_law_900 rfl rfl rfl (Nat.le_of_ble_eq_true rfl) hc (ok10_brackets (d := 96) hX1.1.1 hM1.1 hX.2.2.1 ⟨rfl, rfl, FR.refl _ _, hM1⟩) (fun x2 I2 L2 P2 h2 => ?_)
  obtain ⟨rfl, rfl, hF, hM2⟩ := h2
  exact q_icmp_eq (tgt := 983) C dL_law_903 (by decide) (fun _ => k _ _ _ _ ⟨hX1.side hF, hM2⟩) (fun c => absurd rfl c)
/-- undo -/
theorem lw_c26 (C : qCB X RL cL_law 4 100 600000 7302250) (S : qSc X b N xs) (hN : N ≤ 2560) (hi : i + 4 < N) (hc : cells ≤ 600000 ∧ slots ≤ 7302250) (hB : BW I L P W) (k : ∀ I' L' P' W', BW I' L' P' W' → qG X 983 (loL b i) [] SH0 I' L' P' cells slots) : qG X 908 (loL b i) [] SH0 I L P cells slots := by
  obtain ⟨hX, hM⟩ := hB
  refine q_aload_n C (k := 1) dL_law_908 rfl ?_
  refine q_cVi (d := 99) (as := []) (st := []) (r := 1) (f := f9I I L (undoR W).1 (undoR W).2) C mv_X9_undo ml_RL_129 dL_law_909 rfl rfl rfl (Nat.le_of_ble_eq_true rfl) hc (ok9_undo (d := 95) hX fun I1 L1 P1 h => ⟨rfl, h⟩) (fun x1 I1 L1 P1 h1 => ?_)
  obtain ⟨rfl, hX1⟩ := h1
  have hM1 := hM.side hX1.far
  refine q_aload_n C (k := 2) dL_law_912 rfl ?_
  refine q_cVi (d := 99) (as := []) (st := [.int (undoR W).1]) (r := 144) (f := f10I I1 L1 P1 (undoR W).1 (undoR W).2) C mv_X10_undo ml_RL_132 dL_law_913 rfl rfl rfl (Nat.le_of_ble_eq_true rfl) hc (ok10_undo (d := 97) hX1.1.1 hM1 hX.okw fun I2 L2 hF h => ⟨rfl, rfl, hF, h⟩) (fun x2 I2 L2 P2 h2 => ?_)
  obtain ⟨rfl, rfl, hF, hM2⟩ := h2
  exact q_icmp_eq (tgt := 983) C dL_law_916 (by decide) (fun _ => k _ _ _ _ ⟨hX1.side hF, hM2⟩) (fun c => absurd rfl c)
/-- redo -/
theorem lw_c27 (C : qCB X RL cL_law 4 100 600000 7302250) (S : qSc X b N xs) (hN : N ≤ 2560) (hi : i + 4 < N) (hc : cells ≤ 600000 ∧ slots ≤ 7302250) (hB : BW I L P W) (k : ∀ I' L' P' W', BW I' L' P' W' → qG X 983 (loL b i) [] SH0 I' L' P' cells slots) : qG X 921 (loL b i) [] SH0 I L P cells slots := by
  obtain ⟨hX, hM⟩ := hB
  refine q_aload_n C (k := 1) dL_law_921 rfl ?_
  refine q_cVi (d := 99) (as := []) (st := []) (r := 1) (f := f9I I L (redoR W).1 (redoR W).2) C mv_X9_redo ml_RL_133 dL_law_922 rfl rfl rfl (Nat.le_of_ble_eq_true rfl) hc (ok9_redo (d := 95) hX fun I1 L1 P1 h => ⟨rfl, h⟩) (fun x1 I1 L1 P1 h1 => ?_)
  obtain ⟨rfl, hX1⟩ := h1
  have hM1 := hM.side hX1.far
  refine q_aload_n C (k := 2) dL_law_925 rfl ?_
  refine q_cVi (d := 99) (as := []) (st := [.int (redoR W).1]) (r := 144) (f := f10I I1 L1 P1 (redoR W).1 (redoR W).2) C mv_X10_redo ml_RL_136 dL_law_926 rfl rfl rfl (Nat.le_of_ble_eq_true rfl) hc (ok10_redo (d := 97) hX1.1.1 hM1 hX.okw fun I2 L2 hF h => ⟨rfl, rfl, hF, h⟩) (fun x2 I2 L2 P2 h2 => ?_)
  obtain ⟨rfl, rfl, hF, hM2⟩ := h2
  exact q_icmp_eq (tgt := 983) C dL_law_929 (by decide) (fun _ => k _ _ _ _ ⟨hX1.side hF, hM2⟩) (fun c => absurd rfl c)
/-- image -/
theorem lw_c28 (C : qCB X RL cL_law 4 100 600000 7302250) (S : qSc X b N xs) (hN : N ≤ 2560) (hi : i + 4 < N) (hc : cells ≤ 600000 ∧ slots ≤ 7302250) (hB : BW I L P W) (k : ∀ I' L' P' W', BW I' L' P' W' → qG X 983 (loL b i) [] SH0 I' L' P' cells slots) : qG X 934 (loL b i) [] SH0 I L P cells slots := by
  obtain ⟨hX, hM⟩ := hB
  refine q_aload_n C (k := 1) dL_law_934 rfl ?_
  refine q_cVi (d := 99) (as := []) (st := []) (r := 1) (f := f9I I L (imageR W).1 (imageR W).2) C mv_X9_image ml_RL_137 dL_law_935 rfl rfl rfl (Nat.le_of_ble_eq_true rfl) hc (ok9_image (d := 96) hX fun I1 L1 P1 h => ⟨rfl, h⟩) (fun x1 I1 L1 P1 h1 => ?_)
  obtain ⟨rfl, hX1⟩ := h1
  have hM1 := hM.side hX1.far
  refine q_aload_n C (k := 2) dL_law_938 rfl ?_
  refine q_cVi (d := 99) (as := []) (st := [.int (imageR W).1]) (r := 144) (f := f10I I1 L1 P1 (imageR W).1 (imageR W).2) C mv_X10_image ml_RL_140 dL_law_939 rfl rfl rfl (Nat.le_of_ble_eq_true rfl) hc (ok10_image (d := 97) hX1.1.1 hM1 fun I2 L2 hF h => ⟨rfl, rfl, hF, h⟩) (fun x2 I2 L2 P2 h2 => ?_)
  obtain ⟨rfl, rfl, hF, hM2⟩ := h2
  exact q_icmp_eq (tgt := 983) C dL_law_942 (by decide) (fun _ => k _ _ _ _ ⟨hX1.side hF, hM2⟩) (fun c => absurd rfl c)
/-- back -/
theorem lw_c29 (C : qCB X RL cL_law 4 100 600000 7302250) (S : qSc X b N xs) (hN : N ≤ 2560) (hi : i + 4 < N) (hc : cells ≤ 600000 ∧ slots ≤ 7302250) (hB : BW I L P W) (k : ∀ I' L' P' W', BW I' L' P' W' → qG X 983 (loL b i) [] SH0 I' L' P' cells slots) : qG X 947 (loL b i) [] SH0 I L P cells slots := by
  obtain ⟨hX, hM⟩ := hB
  refine q_aload_n C (k := 1) dL_law_947 rfl ?_
  refine q_cVi (d := 99) (as := []) (st := []) (r := 1) (f := f9I I L (backR W).1 (backR W).2) C mv_X9_back ml_RL_141 dL_law_948 rfl rfl rfl (Nat.le_of_ble_eq_true rfl) hc (ok9_back (d := 95) hX fun I1 L1 P1 h => ⟨rfl, h⟩) (fun x1 I1 L1 P1 h1 => ?_)
  obtain ⟨rfl, hX1⟩ := h1
  have hM1 := hM.side hX1.far
  refine q_aload_n C (k := 2) dL_law_951 rfl ?_
  refine q_cVi (d := 99) (as := []) (st := [.int (backR W).1]) (r := 144) (f := f10I I1 L1 P1 (backR W).1 (backR W).2) C mv_X10_back ml_RL_144 dL_law_952 rfl rfl rfl (Nat.le_of_ble_eq_true rfl) hc (ok10_back (d := 97) hX1.1.1 hM1 fun I2 L2 hF h => ⟨rfl, rfl, hF, h⟩) (fun x2 I2 L2 P2 h2 => ?_)
  obtain ⟨rfl, rfl, hF, hM2⟩ := h2
  exact q_icmp_eq (tgt := 983) C dL_law_955 (by decide) (fun _ => k _ _ _ _ ⟨hX1.side hF, hM2⟩) (fun c => absurd rfl c)
/-- count -/
theorem lw_c30 (C : qCB X RL cL_law 4 100 600000 7302250) (S : qSc X b N xs) (hN : N ≤ 2560) (hi : i + 4 < N) (hc : cells ≤ 600000 ∧ slots ≤ 7302250) (hB : BW I L P W) (k : ∀ I' L' P' W', BW I' L' P' W' → qG X 983 (loL b i) [] SH0 I' L' P' cells slots) : qG X 960 (loL b i) [] SH0 I L P cells slots := by
  obtain ⟨hX, hM⟩ := hB
  refine q_aload_n C (k := 1) dL_law_960 rfl ?_
  refine q_rd C S hN (i := i) (k := 1) (by omega) dL_law_961 dL_law_962 dL_law_963 dL_law_964 dL_law_965 (by decide) ?_
  refine q_cVi (d := 99) (as := [.int (xs (i + 1))]) (st := []) (r := 1) (f := f9I I L (countV W (xs (i + 1))) W) C mv_X9_count ml_RL_145 dL_law_966 rfl rfl rfl (Nat.le_of_ble_eq_true rfl) hc (ok9_count (d := 96) hX ⟨rfl, hX⟩) (fun x1 I1 L1 P1 h1 => ?_)
  obtain ⟨rfl, hX1⟩ := h1
  have hM1 := hM.side hX1.far
  refine q_aload_n C (k := 2) dL_law_969 rfl ?_
  refine q_rd C S hN (i := i) (k := 1) (by omega) dL_law_970 dL_law_971 dL_law_972 dL_law_973 dL_law_974 (by decide) ?_
  refine q_cVi (d := 99) (as := [.int (xs (i + 1))]) (st := [.int (countV W (xs (i + 1)))]) (r := 144) (f := f10I I1 L1 P1 (countV W (xs (i + 1))) W) C mv_X10_count ml_RL_148 dL_law_975 rfl rfl rfl (Nat.le_of_ble_eq_true rfl) hc (ok10_count (d := 96) hX1.1.1 hM1 ⟨rfl, rfl, FR.refl _ _, hM1⟩) (fun x2 I2 L2 P2 h2 => ?_)
  obtain ⟨rfl, rfl, hF, hM2⟩ := h2
  exact q_icmp_eq (tgt := 983) C dL_law_978 (by decide) (fun _ => k _ _ _ _ ⟨hX1.side hF, hM2⟩) (fun c => absurd rfl c)
end QK
