/-! ===== the law ===== -/
abbrev Zl : GT → State → Array Value → List Frame → State → Prop := fun G s args below t => (∃ b, args = #[Value.ref b]) → s.heap.size ≤ gB G → lw_Z below args s t
abbrev LW (G : GT) (pc : Nat) (i : Int) (st : List AV) (mem : Mem) : Prop := ExW G room_1 600000 7302250 Zl RL cL_law 4 ret pc [(3, vI i), (2, vR 71), (1, vR 0), (0, vX)] st mem
def sc (G : GT) (z : Int) : Int := ((gX G).2.2 z.toNat).toInt
theorem sc_inr {G : GT} {z : Int} : inr (sc G z) := t32_inr _
section LA
variable {G : GT} {i J : Int} {mem : Mem} {st : List AV} {pc q : Nat}
theorem l_end : LW G 1322 i [vI 1] mem := by
  intro p l e s m args below meth c H locs lsA C hWd hS hl
  obtain ⟨hx, hb, hr, hml, hown, hlk, hts, hK, hE⟩ := id C
  by_cases hP : (∃ b, args = #[Value.ref b]) ∧ s.heap.size ≤ gB G
  · obtain ⟨⟨b, rfl⟩, hsz⟩ := hP
    have k : W p l e room_1 s m #[Value.ref b] below meth c H locs 600000 7302250 (lw_Z below #[Value.ref b] s) (F0 m 1322 lsA [.int 1]) := va_forget (fun q hq => Nat.le_trans hsz (hS.2.2 q hq)) (lw_ret hx hb hr hlk dL_law_1322)
    intro T hT X
    obtain ⟨t, a1, b1⟩ := k T hT X
    exact ⟨t, a1, fun _ _ => b1⟩
  · intro T hT X
    exact ⟨_, Steps.refl _, fun h1 h2 => absurd ⟨h1, h2⟩ hP⟩
theorem l_arg {z : Int} (hi : 0 ≤ i) (hi6 : i + 6 ≤ ((gX G).2.1 : Int)) (hz : 0 ≤ z ∧ z < 6) (h0 : decode cL_law pc = .ok (.aload_n 0, 1)) (h1 : decode cL_law (pc + 1) = .ok (.iload_n 3, 1)) (h2 : decode cL_law (pc + 2) = .ok (.iconst z, 1)) (h3 : decode cL_law (pc + 3) = .ok (.iadd, 1)) (h4 : decode cL_law (pc + 4) = .ok (.iaload, 1)) (hq : pc + 5 = q) (k : LW G q i (vI (sc G (i + z)) :: st) mem) : LW G pc i st mem := by
  subst hq
  refine x_aloadn 3 rfl rfl rfl h0 rfl ?_
  refine x_iloadn 0 rfl rfl h1 rfl ?_
  refine x_iconst h2 rfl ?_
  refine x_iadd h3 rfl ?_
  exact x_sld h4 rfl (by omega) (by omega) k
theorem l_bool {z : Int} (hi : 0 ≤ i) (hi6 : i + 6 ≤ ((gX G).2.1 : Int)) (hz : 0 ≤ z ∧ z < 6) (h0 : decode cL_law pc = .ok (.aload_n 0, 1)) (h1 : decode cL_law (pc + 1) = .ok (.iload_n 3, 1)) (h2 : decode cL_law (pc + 2) = .ok (.iconst z, 1)) (h3 : decode cL_law (pc + 3) = .ok (.iadd, 1)) (h4 : decode cL_law (pc + 4) = .ok (.iaload, 1)) (h5 : decode cL_law (pc + 5) = .ok (.ifCond .eq 7, 3)) (h6 : decode cL_law (pc + 8) = .ok (.iconst 1, 1)) (h7 : decode cL_law (pc + 9) = .ok (.goto 4, 3)) (h8 : decode cL_law (pc + 12) = .ok (.iconst 0, 1)) (hq : pc + 13 = q) (k : LW G q i (vI (if sc G (i + z) = 0 then 0 else 1) :: st) mem) : LW G pc i st mem := by
  subst hq
  refine l_arg hi hi6 hz h0 h1 h2 h3 h4 rfl ?_
  refine x_if_eq (tgt := pc + 12) h5 (by omega) rfl sc_inr (fun hc => ?_) (fun hc => ?_)
  · rw [if_pos hc] at k
    exact x_iconst h8 rfl k
  · rw [if_neg hc] at k
    refine x_iconst h6 rfl ?_
    exact x_goto (tgt := pc + 13) h7 (by omega) k
theorem l_same {z off : Int} {tgt : Nat} (hd : decode cL_law pc = .ok (.if_icmp .eq off, 3)) (ht : (pc : Int) + off = (tgt : Int)) (k : LW G tgt i st mem) : LW G pc i (vI z :: vI z :: st) mem := by
  intro p l e s m args below meth c H locs lsA C hWd hS hl
  obtain ⟨hx, hb, hr, hml, hown, hlk, hts, hK, hE⟩ := id C
  show W _ _ _ _ _ _ _ _ _ _ _ _ _ _ _ (F0 _ _ _ (Value.int (Int32.ofInt z) :: Value.int (Int32.ofInt z) :: st.map (cv G)))
  exact lv_icmp_eq hx hb hd ht (fun _ => k p l e s m args below meth c H locs lsA C hWd hS hl) (fun q => absurd rfl q)
theorem l_sameL {z : Int} {tgt : Nat} {off : Int} (hd : decode cL_law pc = .ok (.lcmp, 1)) (hd2 : decode cL_law (pc + 1) = .ok (.ifCond .eq off, 3)) (ht : ((pc + 1 : Nat) : Int) + off = (tgt : Int)) (k : LW G tgt i st mem) : LW G pc i (vL z :: vL z :: st) mem := by
  have k2 : LW G pc i (vL ((Int64.ofInt z).toInt) :: vL ((Int64.ofInt z).toInt) :: st) mem := by
    refine x_lcmp (t64_inl _) (t64_inl _) hd rfl ?_
    have e0 : lcmp (Int64.ofInt z).toInt (Int64.ofInt z).toInt = 0 := by unfold lcmp; simp
    rw [e0]
    exact x_if_eq hd2 ht rfl ⟨by decide, by decide⟩ (fun _ => k) (fun h => absurd rfl h)
  intro p l e s m args below meth c H locs lsA C hWd hS hl
  have k3 := k2 p l e s m args below meth c H locs lsA C hWd hS hl
  have e1 : (vL ((Int64.ofInt z).toInt) :: vL ((Int64.ofInt z).toInt) :: st).map (cv G) = (vL z :: vL z :: st).map (cv G) := by
    show Value.long (Int64.ofInt (Int64.ofInt z).toInt) :: Value.long (Int64.ofInt (Int64.ofInt z).toInt) :: _ = Value.long (Int64.ofInt z) :: Value.long (Int64.ofInt z) :: _
    rw [Int64.ofInt_toInt]
  rw [e1] at k3
  exact k3
theorem law_machine (hi : 0 ≤ i) (hi6 : i + 6 ≤ ((gX G).2.1 : Int)) (hJ : J < 1000000) (h : Rl J mem) (k : ∀ m2, Rl (J + 1) m2 → LW G 1315 i [] m2) : LW G 208 i [] mem := by
  refine x_aloadn 2 rfl rfl rfl dL_law_208 rfl ?_
  refine l_arg hi hi6 ⟨by decide, by decide⟩ dL_law_209 dL_law_210 dL_law_211 dL_law_212 dL_law_213 rfl ?_
  refine l_arg hi hi6 ⟨by decide, by decide⟩ dL_law_214 dL_law_215 dL_law_216 dL_law_217 dL_law_218 rfl ?_
  refine l_arg hi hi6 ⟨by decide, by decide⟩ dL_law_219 dL_law_220 dL_law_221 dL_law_222 dL_law_223 rfl ?_
  refine x_callV (d := 2000) (as := [vI (sc G (i + 1)), vI (sc G (i + 2)), vI (sc G (i + 3))]) dL_law_224 rfl mv_L_13 sh_0 rfl rfl rfl (Nat.le_of_ble_eq_true rfl) ⟨Nat.le_of_ble_eq_true rfl, Nat.le_of_ble_eq_true rfl⟩ ⟨Nat.le_of_ble_eq_true rfl, Nat.le_of_ble_eq_true rfl⟩ (Ct.mono (op_machine (d := 2000) (by decide) h sc_inr sc_inr sc_inr) (fun r m1 hq => ?_))
  obtain ⟨z, rfl, h2⟩ := hq
  refine x_aloadn 1 rfl rfl rfl dL_law_227 rfl ?_
  refine l_arg hi hi6 ⟨by decide, by decide⟩ dL_law_228 dL_law_229 dL_law_230 dL_law_231 dL_law_232 rfl ?_
  refine l_arg hi hi6 ⟨by decide, by decide⟩ dL_law_233 dL_law_234 dL_law_235 dL_law_236 dL_law_237 rfl ?_
  refine l_arg hi hi6 ⟨by decide, by decide⟩ dL_law_238 dL_law_239 dL_law_240 dL_law_241 dL_law_242 rfl ?_
  refine x_callV (d := 2000) (as := [vI (sc G (i + 1)), vI (sc G (i + 2)), vI (sc G (i + 3))]) dL_law_243 rfl mv_L_17 sh_71 rfl rfl rfl (Nat.le_of_ble_eq_true rfl) ⟨Nat.le_of_ble_eq_true rfl, Nat.le_of_ble_eq_true rfl⟩ ⟨Nat.le_of_ble_eq_true rfl, Nat.le_of_ble_eq_true rfl⟩ (Ct.mono h2 (fun r m2 hq => ?_))
  obtain ⟨-, rfl, h3⟩ := hq
  exact l_same dL_law_246 rfl (k m2 (h3.mono (by omega)))
theorem law_machineIs (hi : 0 ≤ i) (hi6 : i + 6 ≤ ((gX G).2.1 : Int)) (hJ : J < 1000000) (h : Rl J mem) (k : ∀ m2, Rl (J + 1) m2 → LW G 1315 i [] m2) : LW G 251 i [] mem := by
  refine x_aloadn 2 rfl rfl rfl dL_law_251 rfl ?_
  refine l_arg hi hi6 ⟨by decide, by decide⟩ dL_law_252 dL_law_253 dL_law_254 dL_law_255 dL_law_256 rfl ?_
  refine l_arg hi hi6 ⟨by decide, by decide⟩ dL_law_257 dL_law_258 dL_law_259 dL_law_260 dL_law_261 rfl ?_
  refine x_callV (d := 2000) (as := [vI (sc G (i + 1)), vI (sc G (i + 2))]) dL_law_262 rfl mv_L_18 sh_0 rfl rfl rfl (Nat.le_of_ble_eq_true rfl) ⟨Nat.le_of_ble_eq_true rfl, Nat.le_of_ble_eq_true rfl⟩ ⟨Nat.le_of_ble_eq_true rfl, Nat.le_of_ble_eq_true rfl⟩ (Ct.mono (op_machineIs (d := 2000) (by decide) h sc_inr sc_inr) (fun r m1 hq => ?_))
  obtain ⟨z, rfl, h2⟩ := hq
  refine x_aloadn 1 rfl rfl rfl dL_law_265 rfl ?_
  refine l_arg hi hi6 ⟨by decide, by decide⟩ dL_law_266 dL_law_267 dL_law_268 dL_law_269 dL_law_270 rfl ?_
  refine l_arg hi hi6 ⟨by decide, by decide⟩ dL_law_271 dL_law_272 dL_law_273 dL_law_274 dL_law_275 rfl ?_
  refine x_callV (d := 2000) (as := [vI (sc G (i + 1)), vI (sc G (i + 2))]) dL_law_276 rfl mv_L_22 sh_71 rfl rfl rfl (Nat.le_of_ble_eq_true rfl) ⟨Nat.le_of_ble_eq_true rfl, Nat.le_of_ble_eq_true rfl⟩ ⟨Nat.le_of_ble_eq_true rfl, Nat.le_of_ble_eq_true rfl⟩ (Ct.mono h2 (fun r m2 hq => ?_))
  obtain ⟨-, rfl, h3⟩ := hq
  exact l_same dL_law_279 rfl (k m2 (h3.mono (by omega)))
theorem law_as (hi : 0 ≤ i) (hi6 : i + 6 ≤ ((gX G).2.1 : Int)) (hJ : J < 1000000) (h : Rl J mem) (k : ∀ m2, Rl (J + 1) m2 → LW G 1315 i [] m2) : LW G 284 i [] mem := by
  refine x_aloadn 2 rfl rfl rfl dL_law_284 rfl ?_
  refine l_arg hi hi6 ⟨by decide, by decide⟩ dL_law_285 dL_law_286 dL_law_287 dL_law_288 dL_law_289 rfl ?_
  refine l_arg hi hi6 ⟨by decide, by decide⟩ dL_law_290 dL_law_291 dL_law_292 dL_law_293 dL_law_294 rfl ?_
  refine x_callV (d := 2000) (as := [vI (sc G (i + 1)), vI (sc G (i + 2))]) dL_law_295 rfl mv_L_23 sh_0 rfl rfl rfl (Nat.le_of_ble_eq_true rfl) ⟨Nat.le_of_ble_eq_true rfl, Nat.le_of_ble_eq_true rfl⟩ ⟨Nat.le_of_ble_eq_true rfl, Nat.le_of_ble_eq_true rfl⟩ (Ct.mono (op_as (d := 2000) (by decide) h sc_inr sc_inr) (fun r m1 hq => ?_))
  obtain ⟨z, rfl, h2⟩ := hq
  refine x_aloadn 1 rfl rfl rfl dL_law_298 rfl ?_
  refine l_arg hi hi6 ⟨by decide, by decide⟩ dL_law_299 dL_law_300 dL_law_301 dL_law_302 dL_law_303 rfl ?_
  refine l_arg hi hi6 ⟨by decide, by decide⟩ dL_law_304 dL_law_305 dL_law_306 dL_law_307 dL_law_308 rfl ?_
  refine x_callV (d := 2000) (as := [vI (sc G (i + 1)), vI (sc G (i + 2))]) dL_law_309 rfl mv_L_26 sh_71 rfl rfl rfl (Nat.le_of_ble_eq_true rfl) ⟨Nat.le_of_ble_eq_true rfl, Nat.le_of_ble_eq_true rfl⟩ ⟨Nat.le_of_ble_eq_true rfl, Nat.le_of_ble_eq_true rfl⟩ (Ct.mono h2 (fun r m2 hq => ?_))
  obtain ⟨-, rfl, h3⟩ := hq
  exact l_same dL_law_312 rfl (k m2 (h3.mono (by omega)))
theorem law_tie (hi : 0 ≤ i) (hi6 : i + 6 ≤ ((gX G).2.1 : Int)) (hJ : J < 1000000) (h : Rl J mem) (k : ∀ m2, Rl (J + 1) m2 → LW G 1315 i [] m2) : LW G 317 i [] mem := by
  refine x_aloadn 2 rfl rfl rfl dL_law_317 rfl ?_
  refine l_arg hi hi6 ⟨by decide, by decide⟩ dL_law_318 dL_law_319 dL_law_320 dL_law_321 dL_law_322 rfl ?_
  refine l_arg hi hi6 ⟨by decide, by decide⟩ dL_law_323 dL_law_324 dL_law_325 dL_law_326 dL_law_327 rfl ?_
  refine l_arg hi hi6 ⟨by decide, by decide⟩ dL_law_328 dL_law_329 dL_law_330 dL_law_331 dL_law_332 rfl ?_
  refine x_callV (d := 2000) (as := [vI (sc G (i + 1)), vI (sc G (i + 2)), vI (sc G (i + 3))]) dL_law_333 rfl mv_L_27 sh_0 rfl rfl rfl (Nat.le_of_ble_eq_true rfl) ⟨Nat.le_of_ble_eq_true rfl, Nat.le_of_ble_eq_true rfl⟩ ⟨Nat.le_of_ble_eq_true rfl, Nat.le_of_ble_eq_true rfl⟩ (Ct.mono (op_tie (d := 2000) (by decide) h sc_inr sc_inr sc_inr) (fun r m1 hq => ?_))
  obtain ⟨z, rfl, h2⟩ := hq
  refine x_aloadn 1 rfl rfl rfl dL_law_336 rfl ?_
  refine l_arg hi hi6 ⟨by decide, by decide⟩ dL_law_337 dL_law_338 dL_law_339 dL_law_340 dL_law_341 rfl ?_
  refine l_arg hi hi6 ⟨by decide, by decide⟩ dL_law_342 dL_law_343 dL_law_344 dL_law_345 dL_law_346 rfl ?_
  refine l_arg hi hi6 ⟨by decide, by decide⟩ dL_law_347 dL_law_348 dL_law_349 dL_law_350 dL_law_351 rfl ?_
  refine x_callV (d := 2000) (as := [vI (sc G (i + 1)), vI (sc G (i + 2)), vI (sc G (i + 3))]) dL_law_352 rfl mv_L_30 sh_71 rfl rfl rfl (Nat.le_of_ble_eq_true rfl) ⟨Nat.le_of_ble_eq_true rfl, Nat.le_of_ble_eq_true rfl⟩ ⟨Nat.le_of_ble_eq_true rfl, Nat.le_of_ble_eq_true rfl⟩ (Ct.mono h2 (fun r m2 hq => ?_))
  obtain ⟨-, rfl, h3⟩ := hq
  exact l_same dL_law_355 rfl (k m2 (h3.mono (by omega)))
theorem law_say (hi : 0 ≤ i) (hi6 : i + 6 ≤ ((gX G).2.1 : Int)) (hJ : J < 1000000) (h : Rl J mem) (k : ∀ m2, Rl (J + 1) m2 → LW G 1315 i [] m2) : LW G 360 i [] mem := by
  refine x_aloadn 2 rfl rfl rfl dL_law_360 rfl ?_
  refine l_arg hi hi6 ⟨by decide, by decide⟩ dL_law_361 dL_law_362 dL_law_363 dL_law_364 dL_law_365 rfl ?_
  refine l_arg hi hi6 ⟨by decide, by decide⟩ dL_law_366 dL_law_367 dL_law_368 dL_law_369 dL_law_370 rfl ?_
  refine l_bool hi hi6 ⟨by decide, by decide⟩ dL_law_371 dL_law_372 dL_law_373 dL_law_374 dL_law_375 dL_law_376 dL_law_379 dL_law_380 dL_law_383 rfl ?_
  refine x_callV (d := 2000) (as := [vI (sc G (i + 1)), vI (sc G (i + 2)), vI (if sc G (i + 3) = 0 then 0 else 1)]) dL_law_384 rfl mv_L_31 sh_0 rfl rfl rfl (Nat.le_of_ble_eq_true rfl) ⟨Nat.le_of_ble_eq_true rfl, Nat.le_of_ble_eq_true rfl⟩ ⟨Nat.le_of_ble_eq_true rfl, Nat.le_of_ble_eq_true rfl⟩ (Ct.mono (op_say (d := 2000) (by decide) h sc_inr sc_inr (by split <;> exact ⟨by decide, by decide⟩)) (fun r m1 hq => ?_))
  obtain ⟨z, rfl, h2⟩ := hq
  refine x_aloadn 1 rfl rfl rfl dL_law_387 rfl ?_
  refine l_arg hi hi6 ⟨by decide, by decide⟩ dL_law_388 dL_law_389 dL_law_390 dL_law_391 dL_law_392 rfl ?_
  refine l_arg hi hi6 ⟨by decide, by decide⟩ dL_law_393 dL_law_394 dL_law_395 dL_law_396 dL_law_397 rfl ?_
  refine l_bool hi hi6 ⟨by decide, by decide⟩ dL_law_398 dL_law_399 dL_law_400 dL_law_401 dL_law_402 dL_law_403 dL_law_406 dL_law_407 dL_law_410 rfl ?_
  refine x_callV (d := 2000) (as := [vI (sc G (i + 1)), vI (sc G (i + 2)), vI (if sc G (i + 3) = 0 then 0 else 1)]) dL_law_411 rfl mv_L_35 sh_71 rfl rfl rfl (Nat.le_of_ble_eq_true rfl) ⟨Nat.le_of_ble_eq_true rfl, Nat.le_of_ble_eq_true rfl⟩ ⟨Nat.le_of_ble_eq_true rfl, Nat.le_of_ble_eq_true rfl⟩ (Ct.mono h2 (fun r m2 hq => ?_))
  obtain ⟨-, rfl, h3⟩ := hq
  exact l_same dL_law_414 rfl (k m2 (h3.mono (by omega)))
theorem law_sayingIs (hi : 0 ≤ i) (hi6 : i + 6 ≤ ((gX G).2.1 : Int)) (hJ : J < 1000000) (h : Rl J mem) (k : ∀ m2, Rl (J + 1) m2 → LW G 1315 i [] m2) : LW G 419 i [] mem := by
  refine x_aloadn 2 rfl rfl rfl dL_law_419 rfl ?_
  refine l_arg hi hi6 ⟨by decide, by decide⟩ dL_law_420 dL_law_421 dL_law_422 dL_law_423 dL_law_424 rfl ?_
  refine l_arg hi hi6 ⟨by decide, by decide⟩ dL_law_425 dL_law_426 dL_law_427 dL_law_428 dL_law_429 rfl ?_
  refine x_callV (d := 2000) (as := [vI (sc G (i + 1)), vI (sc G (i + 2))]) dL_law_430 rfl mv_L_36 sh_0 rfl rfl rfl (Nat.le_of_ble_eq_true rfl) ⟨Nat.le_of_ble_eq_true rfl, Nat.le_of_ble_eq_true rfl⟩ ⟨Nat.le_of_ble_eq_true rfl, Nat.le_of_ble_eq_true rfl⟩ (Ct.mono (op_sayingIs (d := 2000) (by decide) h sc_inr sc_inr) (fun r m1 hq => ?_))
  obtain ⟨z, rfl, h2⟩ := hq
  refine x_aloadn 1 rfl rfl rfl dL_law_433 rfl ?_
  refine l_arg hi hi6 ⟨by decide, by decide⟩ dL_law_434 dL_law_435 dL_law_436 dL_law_437 dL_law_438 rfl ?_
  refine l_arg hi hi6 ⟨by decide, by decide⟩ dL_law_439 dL_law_440 dL_law_441 dL_law_442 dL_law_443 rfl ?_
  refine x_callV (d := 2000) (as := [vI (sc G (i + 1)), vI (sc G (i + 2))]) dL_law_444 rfl mv_L_39 sh_71 rfl rfl rfl (Nat.le_of_ble_eq_true rfl) ⟨Nat.le_of_ble_eq_true rfl, Nat.le_of_ble_eq_true rfl⟩ ⟨Nat.le_of_ble_eq_true rfl, Nat.le_of_ble_eq_true rfl⟩ (Ct.mono h2 (fun r m2 hq => ?_))
  obtain ⟨-, rfl, h3⟩ := hq
  exact l_same dL_law_447 rfl (k m2 (h3.mono (by omega)))
theorem law_unsay (hi : 0 ≤ i) (hi6 : i + 6 ≤ ((gX G).2.1 : Int)) (hJ : J < 1000000) (h : Rl J mem) (k : ∀ m2, Rl (J + 1) m2 → LW G 1315 i [] m2) : LW G 452 i [] mem := by
  refine x_aloadn 2 rfl rfl rfl dL_law_452 rfl ?_
  refine l_arg hi hi6 ⟨by decide, by decide⟩ dL_law_453 dL_law_454 dL_law_455 dL_law_456 dL_law_457 rfl ?_
  refine x_callV (d := 2000) (as := [vI (sc G (i + 1))]) dL_law_458 rfl mv_L_40 sh_0 rfl rfl rfl (Nat.le_of_ble_eq_true rfl) ⟨Nat.le_of_ble_eq_true rfl, Nat.le_of_ble_eq_true rfl⟩ ⟨Nat.le_of_ble_eq_true rfl, Nat.le_of_ble_eq_true rfl⟩ (Ct.mono (op_unsay (d := 2000) (by decide) h sc_inr) (fun r m1 hq => ?_))
  obtain ⟨z, rfl, h2⟩ := hq
  refine x_aloadn 1 rfl rfl rfl dL_law_461 rfl ?_
  refine l_arg hi hi6 ⟨by decide, by decide⟩ dL_law_462 dL_law_463 dL_law_464 dL_law_465 dL_law_466 rfl ?_
  refine x_callV (d := 2000) (as := [vI (sc G (i + 1))]) dL_law_467 rfl mv_L_44 sh_71 rfl rfl rfl (Nat.le_of_ble_eq_true rfl) ⟨Nat.le_of_ble_eq_true rfl, Nat.le_of_ble_eq_true rfl⟩ ⟨Nat.le_of_ble_eq_true rfl, Nat.le_of_ble_eq_true rfl⟩ (Ct.mono h2 (fun r m2 hq => ?_))
  obtain ⟨-, rfl, h3⟩ := hq
  exact l_same dL_law_470 rfl (k m2 (h3.mono (by omega)))
theorem law_most (hi : 0 ≤ i) (hi6 : i + 6 ≤ ((gX G).2.1 : Int)) (hJ : J < 1000000) (h : Rl J mem) (k : ∀ m2, Rl (J + 1) m2 → LW G 1315 i [] m2) : LW G 475 i [] mem := by
  refine x_aloadn 2 rfl rfl rfl dL_law_475 rfl ?_
  refine l_arg hi hi6 ⟨by decide, by decide⟩ dL_law_476 dL_law_477 dL_law_478 dL_law_479 dL_law_480 rfl ?_
  refine x_callV (d := 2000) (as := [vI (sc G (i + 1))]) dL_law_481 rfl mv_L_45 sh_0 rfl rfl rfl (Nat.le_of_ble_eq_true rfl) ⟨Nat.le_of_ble_eq_true rfl, Nat.le_of_ble_eq_true rfl⟩ ⟨Nat.le_of_ble_eq_true rfl, Nat.le_of_ble_eq_true rfl⟩ (Ct.mono (op_most (d := 2000) (by decide) h sc_inr) (fun r m1 hq => ?_))
  obtain ⟨z, rfl, h2⟩ := hq
  refine x_aloadn 1 rfl rfl rfl dL_law_484 rfl ?_
  refine l_arg hi hi6 ⟨by decide, by decide⟩ dL_law_485 dL_law_486 dL_law_487 dL_law_488 dL_law_489 rfl ?_
  refine x_callV (d := 2000) (as := [vI (sc G (i + 1))]) dL_law_490 rfl mv_L_48 sh_71 rfl rfl rfl (Nat.le_of_ble_eq_true rfl) ⟨Nat.le_of_ble_eq_true rfl, Nat.le_of_ble_eq_true rfl⟩ ⟨Nat.le_of_ble_eq_true rfl, Nat.le_of_ble_eq_true rfl⟩ (Ct.mono h2 (fun r m2 hq => ?_))
  obtain ⟨-, rfl, h3⟩ := hq
  exact l_same dL_law_493 rfl (k m2 (h3.mono (by omega)))
theorem law_feed (hi : 0 ≤ i) (hi6 : i + 6 ≤ ((gX G).2.1 : Int)) (hJ : J < 1000000) (h : Rl J mem) (k : ∀ m2, Rl (J + 1) m2 → LW G 1315 i [] m2) : LW G 498 i [] mem := by
  refine x_aloadn 2 rfl rfl rfl dL_law_498 rfl ?_
  refine l_arg hi hi6 ⟨by decide, by decide⟩ dL_law_499 dL_law_500 dL_law_501 dL_law_502 dL_law_503 rfl ?_
  refine x_i2l sc_inr dL_law_504 rfl ?_
  refine x_bipush (by decide) dL_law_505 rfl ?_
  refine x_lshl dL_law_507 rfl ?_
  refine l_arg hi hi6 ⟨by decide, by decide⟩ dL_law_508 dL_law_509 dL_law_510 dL_law_511 dL_law_512 rfl ?_
  refine x_i2l sc_inr dL_law_513 rfl ?_
  refine x_ldc2 (z := 4294967295) cn_L_49 (by decide) dL_law_514 rfl ?_
  refine x_land dL_law_517 rfl ?_
  refine x_lor dL_law_518 rfl ?_
  refine l_arg hi hi6 ⟨by decide, by decide⟩ dL_law_519 dL_law_520 dL_law_521 dL_law_522 dL_law_523 rfl ?_
  refine x_callV (d := 2000) (as := [vL (lor (lshl (sc G (i + 1)) 32) (land (sc G (i + 2)) 4294967295)), vI (sc G (i + 3))]) dL_law_524 rfl mv_L_51 sh_0 rfl rfl rfl (Nat.le_of_ble_eq_true rfl) ⟨Nat.le_of_ble_eq_true rfl, Nat.le_of_ble_eq_true rfl⟩ ⟨Nat.le_of_ble_eq_true rfl, Nat.le_of_ble_eq_true rfl⟩ (Ct.mono (op_feed (d := 2000) (by decide) h sc_inr) (fun r m1 hq => ?_))
  obtain ⟨z, rfl, h2⟩ := hq
  refine x_aloadn 1 rfl rfl rfl dL_law_527 rfl ?_
  refine l_arg hi hi6 ⟨by decide, by decide⟩ dL_law_528 dL_law_529 dL_law_530 dL_law_531 dL_law_532 rfl ?_
  refine x_i2l sc_inr dL_law_533 rfl ?_
  refine x_bipush (by decide) dL_law_534 rfl ?_
  refine x_lshl dL_law_536 rfl ?_
  refine l_arg hi hi6 ⟨by decide, by decide⟩ dL_law_537 dL_law_538 dL_law_539 dL_law_540 dL_law_541 rfl ?_
  refine x_i2l sc_inr dL_law_542 rfl ?_
  refine x_ldc2 (z := 4294967295) cn_L_49 (by decide) dL_law_543 rfl ?_
  refine x_land dL_law_546 rfl ?_
  refine x_lor dL_law_547 rfl ?_
  refine l_arg hi hi6 ⟨by decide, by decide⟩ dL_law_548 dL_law_549 dL_law_550 dL_law_551 dL_law_552 rfl ?_
  refine x_callV (d := 2000) (as := [vL (lor (lshl (sc G (i + 1)) 32) (land (sc G (i + 2)) 4294967295)), vI (sc G (i + 3))]) dL_law_553 rfl mv_L_55 sh_71 rfl rfl rfl (Nat.le_of_ble_eq_true rfl) ⟨Nat.le_of_ble_eq_true rfl, Nat.le_of_ble_eq_true rfl⟩ ⟨Nat.le_of_ble_eq_true rfl, Nat.le_of_ble_eq_true rfl⟩ (Ct.mono h2 (fun r m2 hq => ?_))
  obtain ⟨-, rfl, h3⟩ := hq
  exact l_same dL_law_556 rfl (k m2 (h3.mono (by omega)))
theorem law_text (hi : 0 ≤ i) (hi6 : i + 6 ≤ ((gX G).2.1 : Int)) (hJ : J < 1000000) (h : Rl J mem) (k : ∀ m2, Rl (J + 1) m2 → LW G 1315 i [] m2) : LW G 561 i [] mem := by
  refine x_aloadn 2 rfl rfl rfl dL_law_561 rfl ?_
  refine x_callV (d := 2000) (as := []) dL_law_562 rfl mv_L_56 sh_0 rfl rfl rfl (Nat.le_of_ble_eq_true rfl) ⟨Nat.le_of_ble_eq_true rfl, Nat.le_of_ble_eq_true rfl⟩ ⟨Nat.le_of_ble_eq_true rfl, Nat.le_of_ble_eq_true rfl⟩ (Ct.mono (op_text (d := 2000) (by decide) h) (fun r m1 hq => ?_))
  obtain ⟨z, rfl, h2⟩ := hq
  refine x_aloadn 1 rfl rfl rfl dL_law_565 rfl ?_
  refine x_callV (d := 2000) (as := []) dL_law_566 rfl mv_L_60 sh_71 rfl rfl rfl (Nat.le_of_ble_eq_true rfl) ⟨Nat.le_of_ble_eq_true rfl, Nat.le_of_ble_eq_true rfl⟩ ⟨Nat.le_of_ble_eq_true rfl, Nat.le_of_ble_eq_true rfl⟩ (Ct.mono h2 (fun r m2 hq => ?_))
  obtain ⟨-, rfl, h3⟩ := hq
  exact l_same dL_law_569 rfl (k m2 (h3.mono (by omega)))
theorem law_fits (hi : 0 ≤ i) (hi6 : i + 6 ≤ ((gX G).2.1 : Int)) (hJ : J < 1000000) (h : Rl J mem) (k : ∀ m2, Rl (J + 1) m2 → LW G 1315 i [] m2) : LW G 574 i [] mem := by
  refine x_aloadn 2 rfl rfl rfl dL_law_574 rfl ?_
  refine l_arg hi hi6 ⟨by decide, by decide⟩ dL_law_575 dL_law_576 dL_law_577 dL_law_578 dL_law_579 rfl ?_
  refine x_callV (d := 2000) (as := [vI (sc G (i + 1))]) dL_law_580 rfl mv_L_61 sh_0 rfl rfl rfl (Nat.le_of_ble_eq_true rfl) ⟨Nat.le_of_ble_eq_true rfl, Nat.le_of_ble_eq_true rfl⟩ ⟨Nat.le_of_ble_eq_true rfl, Nat.le_of_ble_eq_true rfl⟩ (Ct.mono (op_fits (d := 2000) (by decide) h sc_inr) (fun r m1 hq => ?_))
  obtain ⟨z, rfl, h2⟩ := hq
  refine x_aloadn 1 rfl rfl rfl dL_law_583 rfl ?_
  refine l_arg hi hi6 ⟨by decide, by decide⟩ dL_law_584 dL_law_585 dL_law_586 dL_law_587 dL_law_588 rfl ?_
  refine x_callV (d := 2000) (as := [vI (sc G (i + 1))]) dL_law_589 rfl mv_L_64 sh_71 rfl rfl rfl (Nat.le_of_ble_eq_true rfl) ⟨Nat.le_of_ble_eq_true rfl, Nat.le_of_ble_eq_true rfl⟩ ⟨Nat.le_of_ble_eq_true rfl, Nat.le_of_ble_eq_true rfl⟩ (Ct.mono h2 (fun r m2 hq => ?_))
  obtain ⟨-, rfl, h3⟩ := hq
  exact l_same dL_law_592 rfl (k m2 (h3.mono (by omega)))
theorem law_bars (hi : 0 ≤ i) (hi6 : i + 6 ≤ ((gX G).2.1 : Int)) (hJ : J < 1000000) (h : Rl J mem) (k : ∀ m2, Rl (J + 1) m2 → LW G 1315 i [] m2) : LW G 597 i [] mem := by
  refine x_aloadn 2 rfl rfl rfl dL_law_597 rfl ?_
  refine l_arg hi hi6 ⟨by decide, by decide⟩ dL_law_598 dL_law_599 dL_law_600 dL_law_601 dL_law_602 rfl ?_
  refine x_callV (d := 2000) (as := [vI (sc G (i + 1))]) dL_law_603 rfl mv_L_65 sh_0 rfl rfl rfl (Nat.le_of_ble_eq_true rfl) ⟨Nat.le_of_ble_eq_true rfl, Nat.le_of_ble_eq_true rfl⟩ ⟨Nat.le_of_ble_eq_true rfl, Nat.le_of_ble_eq_true rfl⟩ (Ct.mono (op_bars (d := 2000) (by decide) h sc_inr) (fun r m1 hq => ?_))
  obtain ⟨z, rfl, h2⟩ := hq
  refine x_aloadn 1 rfl rfl rfl dL_law_606 rfl ?_
  refine l_arg hi hi6 ⟨by decide, by decide⟩ dL_law_607 dL_law_608 dL_law_609 dL_law_610 dL_law_611 rfl ?_
  refine x_callV (d := 2000) (as := [vI (sc G (i + 1))]) dL_law_612 rfl mv_L_68 sh_71 rfl rfl rfl (Nat.le_of_ble_eq_true rfl) ⟨Nat.le_of_ble_eq_true rfl, Nat.le_of_ble_eq_true rfl⟩ ⟨Nat.le_of_ble_eq_true rfl, Nat.le_of_ble_eq_true rfl⟩ (Ct.mono h2 (fun r m2 hq => ?_))
  obtain ⟨-, rfl, h3⟩ := hq
  exact l_same dL_law_615 rfl (k m2 (h3.mono (by omega)))
theorem law_many (hi : 0 ≤ i) (hi6 : i + 6 ≤ ((gX G).2.1 : Int)) (hJ : J < 1000000) (h : Rl J mem) (k : ∀ m2, Rl (J + 1) m2 → LW G 1315 i [] m2) : LW G 620 i [] mem := by
  refine x_aloadn 2 rfl rfl rfl dL_law_620 rfl ?_
  refine x_callV (d := 2000) (as := []) dL_law_621 rfl mv_L_69 sh_0 rfl rfl rfl (Nat.le_of_ble_eq_true rfl) ⟨Nat.le_of_ble_eq_true rfl, Nat.le_of_ble_eq_true rfl⟩ ⟨Nat.le_of_ble_eq_true rfl, Nat.le_of_ble_eq_true rfl⟩ (Ct.mono (op_many (d := 2000) (by decide) h) (fun r m1 hq => ?_))
  obtain ⟨z, rfl, h2⟩ := hq
  refine x_aloadn 1 rfl rfl rfl dL_law_624 rfl ?_
  refine x_callV (d := 2000) (as := []) dL_law_625 rfl mv_L_72 sh_71 rfl rfl rfl (Nat.le_of_ble_eq_true rfl) ⟨Nat.le_of_ble_eq_true rfl, Nat.le_of_ble_eq_true rfl⟩ ⟨Nat.le_of_ble_eq_true rfl, Nat.le_of_ble_eq_true rfl⟩ (Ct.mono h2 (fun r m2 hq => ?_))
  obtain ⟨-, rfl, h3⟩ := hq
  exact l_same dL_law_628 rfl (k m2 (h3.mono (by omega)))
theorem law_which (hi : 0 ≤ i) (hi6 : i + 6 ≤ ((gX G).2.1 : Int)) (hJ : J < 1000000) (h : Rl J mem) (k : ∀ m2, Rl (J + 1) m2 → LW G 1315 i [] m2) : LW G 633 i [] mem := by
  refine x_aloadn 2 rfl rfl rfl dL_law_633 rfl ?_
  refine l_arg hi hi6 ⟨by decide, by decide⟩ dL_law_634 dL_law_635 dL_law_636 dL_law_637 dL_law_638 rfl ?_
  refine x_callV (d := 2000) (as := [vI (sc G (i + 1))]) dL_law_639 rfl mv_L_73 sh_0 rfl rfl rfl (Nat.le_of_ble_eq_true rfl) ⟨Nat.le_of_ble_eq_true rfl, Nat.le_of_ble_eq_true rfl⟩ ⟨Nat.le_of_ble_eq_true rfl, Nat.le_of_ble_eq_true rfl⟩ (Ct.mono (op_which (d := 2000) (by decide) h sc_inr) (fun r m1 hq => ?_))
  obtain ⟨z, rfl, h2⟩ := hq
  refine x_aloadn 1 rfl rfl rfl dL_law_642 rfl ?_
  refine l_arg hi hi6 ⟨by decide, by decide⟩ dL_law_643 dL_law_644 dL_law_645 dL_law_646 dL_law_647 rfl ?_
  refine x_callV (d := 2000) (as := [vI (sc G (i + 1))]) dL_law_648 rfl mv_L_76 sh_71 rfl rfl rfl (Nat.le_of_ble_eq_true rfl) ⟨Nat.le_of_ble_eq_true rfl, Nat.le_of_ble_eq_true rfl⟩ ⟨Nat.le_of_ble_eq_true rfl, Nat.le_of_ble_eq_true rfl⟩ (Ct.mono h2 (fun r m2 hq => ?_))
  obtain ⟨-, rfl, h3⟩ := hq
  exact l_same dL_law_651 rfl (k m2 (h3.mono (by omega)))
theorem law_sure (hi : 0 ≤ i) (hi6 : i + 6 ≤ ((gX G).2.1 : Int)) (hJ : J < 1000000) (h : Rl J mem) (k : ∀ m2, Rl (J + 1) m2 → LW G 1315 i [] m2) : LW G 656 i [] mem := by
  refine x_aloadn 2 rfl rfl rfl dL_law_656 rfl ?_
  refine l_arg hi hi6 ⟨by decide, by decide⟩ dL_law_657 dL_law_658 dL_law_659 dL_law_660 dL_law_661 rfl ?_
  refine x_callV (d := 2000) (as := [vI (sc G (i + 1))]) dL_law_662 rfl mv_L_77 sh_0 rfl rfl rfl (Nat.le_of_ble_eq_true rfl) ⟨Nat.le_of_ble_eq_true rfl, Nat.le_of_ble_eq_true rfl⟩ ⟨Nat.le_of_ble_eq_true rfl, Nat.le_of_ble_eq_true rfl⟩ (Ct.mono (op_sure (d := 2000) (by decide) h sc_inr) (fun r m1 hq => ?_))
  obtain ⟨z, rfl, h2⟩ := hq
  refine x_aloadn 1 rfl rfl rfl dL_law_665 rfl ?_
  refine l_arg hi hi6 ⟨by decide, by decide⟩ dL_law_666 dL_law_667 dL_law_668 dL_law_669 dL_law_670 rfl ?_
  refine x_callV (d := 2000) (as := [vI (sc G (i + 1))]) dL_law_671 rfl mv_L_80 sh_71 rfl rfl rfl (Nat.le_of_ble_eq_true rfl) ⟨Nat.le_of_ble_eq_true rfl, Nat.le_of_ble_eq_true rfl⟩ ⟨Nat.le_of_ble_eq_true rfl, Nat.le_of_ble_eq_true rfl⟩ (Ct.mono h2 (fun r m2 hq => ?_))
  obtain ⟨-, rfl, h3⟩ := hq
  exact l_same dL_law_674 rfl (k m2 (h3.mono (by omega)))
theorem law_blame (hi : 0 ≤ i) (hi6 : i + 6 ≤ ((gX G).2.1 : Int)) (hJ : J < 1000000) (h : Rl J mem) (k : ∀ m2, Rl (J + 1) m2 → LW G 1315 i [] m2) : LW G 679 i [] mem := by
  refine x_aloadn 2 rfl rfl rfl dL_law_679 rfl ?_
  refine l_arg hi hi6 ⟨by decide, by decide⟩ dL_law_680 dL_law_681 dL_law_682 dL_law_683 dL_law_684 rfl ?_
  refine x_callV (d := 2000) (as := [vI (sc G (i + 1))]) dL_law_685 rfl mv_L_81 sh_0 rfl rfl rfl (Nat.le_of_ble_eq_true rfl) ⟨Nat.le_of_ble_eq_true rfl, Nat.le_of_ble_eq_true rfl⟩ ⟨Nat.le_of_ble_eq_true rfl, Nat.le_of_ble_eq_true rfl⟩ (Ct.mono (op_blame (d := 2000) (by decide) h sc_inr) (fun r m1 hq => ?_))
  obtain ⟨z, rfl, h2⟩ := hq
  refine x_aloadn 1 rfl rfl rfl dL_law_688 rfl ?_
  refine l_arg hi hi6 ⟨by decide, by decide⟩ dL_law_689 dL_law_690 dL_law_691 dL_law_692 dL_law_693 rfl ?_
  refine x_callV (d := 2000) (as := [vI (sc G (i + 1))]) dL_law_694 rfl mv_L_84 sh_71 rfl rfl rfl (Nat.le_of_ble_eq_true rfl) ⟨Nat.le_of_ble_eq_true rfl, Nat.le_of_ble_eq_true rfl⟩ ⟨Nat.le_of_ble_eq_true rfl, Nat.le_of_ble_eq_true rfl⟩ (Ct.mono h2 (fun r m2 hq => ?_))
  obtain ⟨-, rfl, h3⟩ := hq
  exact l_same dL_law_697 rfl (k m2 (h3.mono (by omega)))
theorem law_leads (hi : 0 ≤ i) (hi6 : i + 6 ≤ ((gX G).2.1 : Int)) (hJ : J < 1000000) (h : Rl J mem) (k : ∀ m2, Rl (J + 1) m2 → LW G 1315 i [] m2) : LW G 702 i [] mem := by
  refine x_aloadn 2 rfl rfl rfl dL_law_702 rfl ?_
  refine l_arg hi hi6 ⟨by decide, by decide⟩ dL_law_703 dL_law_704 dL_law_705 dL_law_706 dL_law_707 rfl ?_
  refine x_callV (d := 2000) (as := [vI (sc G (i + 1))]) dL_law_708 rfl mv_L_85 sh_0 rfl rfl rfl (Nat.le_of_ble_eq_true rfl) ⟨Nat.le_of_ble_eq_true rfl, Nat.le_of_ble_eq_true rfl⟩ ⟨Nat.le_of_ble_eq_true rfl, Nat.le_of_ble_eq_true rfl⟩ (Ct.mono (op_leads (d := 2000) (by decide) h sc_inr) (fun r m1 hq => ?_))
  obtain ⟨z, rfl, h2⟩ := hq
  refine x_aloadn 1 rfl rfl rfl dL_law_711 rfl ?_
  refine l_arg hi hi6 ⟨by decide, by decide⟩ dL_law_712 dL_law_713 dL_law_714 dL_law_715 dL_law_716 rfl ?_
  refine x_callV (d := 2000) (as := [vI (sc G (i + 1))]) dL_law_717 rfl mv_L_88 sh_71 rfl rfl rfl (Nat.le_of_ble_eq_true rfl) ⟨Nat.le_of_ble_eq_true rfl, Nat.le_of_ble_eq_true rfl⟩ ⟨Nat.le_of_ble_eq_true rfl, Nat.le_of_ble_eq_true rfl⟩ (Ct.mono h2 (fun r m2 hq => ?_))
  obtain ⟨-, rfl, h3⟩ := hq
  exact l_same dL_law_720 rfl (k m2 (h3.mono (by omega)))
theorem law_known (hi : 0 ≤ i) (hi6 : i + 6 ≤ ((gX G).2.1 : Int)) (hJ : J < 1000000) (h : Rl J mem) (k : ∀ m2, Rl (J + 1) m2 → LW G 1315 i [] m2) : LW G 725 i [] mem := by
  refine x_aloadn 2 rfl rfl rfl dL_law_725 rfl ?_
  refine x_callV (d := 2000) (as := []) dL_law_726 rfl mv_L_89 sh_0 rfl rfl rfl (Nat.le_of_ble_eq_true rfl) ⟨Nat.le_of_ble_eq_true rfl, Nat.le_of_ble_eq_true rfl⟩ ⟨Nat.le_of_ble_eq_true rfl, Nat.le_of_ble_eq_true rfl⟩ (Ct.mono (op_known (d := 2000) (by decide) h) (fun r m1 hq => ?_))
  obtain ⟨z, rfl, h2⟩ := hq
  refine x_aloadn 1 rfl rfl rfl dL_law_729 rfl ?_
  refine x_callV (d := 2000) (as := []) dL_law_730 rfl mv_L_92 sh_71 rfl rfl rfl (Nat.le_of_ble_eq_true rfl) ⟨Nat.le_of_ble_eq_true rfl, Nat.le_of_ble_eq_true rfl⟩ ⟨Nat.le_of_ble_eq_true rfl, Nat.le_of_ble_eq_true rfl⟩ (Ct.mono h2 (fun r m2 hq => ?_))
  obtain ⟨-, rfl, h3⟩ := hq
  exact l_same dL_law_733 rfl (k m2 (h3.mono (by omega)))
theorem law_pair (hi : 0 ≤ i) (hi6 : i + 6 ≤ ((gX G).2.1 : Int)) (hJ : J < 1000000) (h : Rl J mem) (k : ∀ m2, Rl (J + 1) m2 → LW G 1315 i [] m2) : LW G 738 i [] mem := by
  refine x_aloadn 2 rfl rfl rfl dL_law_738 rfl ?_
  refine l_arg hi hi6 ⟨by decide, by decide⟩ dL_law_739 dL_law_740 dL_law_741 dL_law_742 dL_law_743 rfl ?_
  refine x_callV (d := 2000) (as := [vI (sc G (i + 1))]) dL_law_744 rfl mv_L_93 sh_0 rfl rfl rfl (Nat.le_of_ble_eq_true rfl) ⟨Nat.le_of_ble_eq_true rfl, Nat.le_of_ble_eq_true rfl⟩ ⟨Nat.le_of_ble_eq_true rfl, Nat.le_of_ble_eq_true rfl⟩ (Ct.mono (op_pair (d := 2000) (by decide) h sc_inr) (fun r m1 hq => ?_))
  obtain ⟨z, rfl, h2⟩ := hq
  refine x_aloadn 1 rfl rfl rfl dL_law_747 rfl ?_
  refine l_arg hi hi6 ⟨by decide, by decide⟩ dL_law_748 dL_law_749 dL_law_750 dL_law_751 dL_law_752 rfl ?_
  refine x_callV (d := 2000) (as := [vI (sc G (i + 1))]) dL_law_753 rfl mv_L_96 sh_71 rfl rfl rfl (Nat.le_of_ble_eq_true rfl) ⟨Nat.le_of_ble_eq_true rfl, Nat.le_of_ble_eq_true rfl⟩ ⟨Nat.le_of_ble_eq_true rfl, Nat.le_of_ble_eq_true rfl⟩ (Ct.mono h2 (fun r m2 hq => ?_))
  obtain ⟨-, rfl, h3⟩ := hq
  exact l_same dL_law_756 rfl (k m2 (h3.mono (by omega)))
theorem law_more (hi : 0 ≤ i) (hi6 : i + 6 ≤ ((gX G).2.1 : Int)) (hJ : J < 1000000) (h : Rl J mem) (k : ∀ m2, Rl (J + 1) m2 → LW G 1315 i [] m2) : LW G 761 i [] mem := by
  refine x_aloadn 2 rfl rfl rfl dL_law_761 rfl ?_
  refine x_callV (d := 2000) (as := []) dL_law_762 rfl mv_L_97 sh_0 rfl rfl rfl (Nat.le_of_ble_eq_true rfl) ⟨Nat.le_of_ble_eq_true rfl, Nat.le_of_ble_eq_true rfl⟩ ⟨Nat.le_of_ble_eq_true rfl, Nat.le_of_ble_eq_true rfl⟩ (Ct.mono (op_more (d := 2000) (by decide) h) (fun r m1 hq => ?_))
  obtain ⟨z, rfl, h2⟩ := hq
  refine x_aloadn 1 rfl rfl rfl dL_law_765 rfl ?_
  refine x_callV (d := 2000) (as := []) dL_law_766 rfl mv_L_100 sh_71 rfl rfl rfl (Nat.le_of_ble_eq_true rfl) ⟨Nat.le_of_ble_eq_true rfl, Nat.le_of_ble_eq_true rfl⟩ ⟨Nat.le_of_ble_eq_true rfl, Nat.le_of_ble_eq_true rfl⟩ (Ct.mono h2 (fun r m2 hq => ?_))
  obtain ⟨-, rfl, h3⟩ := hq
  exact l_same dL_law_769 rfl (k m2 (h3.mono (by omega)))
theorem law_without (hi : 0 ≤ i) (hi6 : i + 6 ≤ ((gX G).2.1 : Int)) (hJ : J < 1000000) (h : Rl J mem) (k : ∀ m2, Rl (J + 1) m2 → LW G 1315 i [] m2) : LW G 774 i [] mem := by
  refine x_aloadn 2 rfl rfl rfl dL_law_774 rfl ?_
  refine l_arg hi hi6 ⟨by decide, by decide⟩ dL_law_775 dL_law_776 dL_law_777 dL_law_778 dL_law_779 rfl ?_
  refine l_arg hi hi6 ⟨by decide, by decide⟩ dL_law_780 dL_law_781 dL_law_782 dL_law_783 dL_law_784 rfl ?_
  refine x_callV (d := 2000) (as := [vI (sc G (i + 1)), vI (sc G (i + 2))]) dL_law_785 rfl mv_L_101 sh_0 rfl rfl rfl (Nat.le_of_ble_eq_true rfl) ⟨Nat.le_of_ble_eq_true rfl, Nat.le_of_ble_eq_true rfl⟩ ⟨Nat.le_of_ble_eq_true rfl, Nat.le_of_ble_eq_true rfl⟩ (Ct.mono (op_without (d := 2000) (by decide) h sc_inr sc_inr) (fun r m1 hq => ?_))
  obtain ⟨z, rfl, h2⟩ := hq
  refine x_aloadn 1 rfl rfl rfl dL_law_788 rfl ?_
  refine l_arg hi hi6 ⟨by decide, by decide⟩ dL_law_789 dL_law_790 dL_law_791 dL_law_792 dL_law_793 rfl ?_
  refine l_arg hi hi6 ⟨by decide, by decide⟩ dL_law_794 dL_law_795 dL_law_796 dL_law_797 dL_law_798 rfl ?_
  refine x_callV (d := 2000) (as := [vI (sc G (i + 1)), vI (sc G (i + 2))]) dL_law_799 rfl mv_L_104 sh_71 rfl rfl rfl (Nat.le_of_ble_eq_true rfl) ⟨Nat.le_of_ble_eq_true rfl, Nat.le_of_ble_eq_true rfl⟩ ⟨Nat.le_of_ble_eq_true rfl, Nat.le_of_ble_eq_true rfl⟩ (Ct.mono h2 (fun r m2 hq => ?_))
  obtain ⟨-, rfl, h3⟩ := hq
  exact l_same dL_law_802 rfl (k m2 (h3.mono (by omega)))
theorem law_next (hi : 0 ≤ i) (hi6 : i + 6 ≤ ((gX G).2.1 : Int)) (hJ : J < 1000000) (h : Rl J mem) (k : ∀ m2, Rl (J + 1) m2 → LW G 1315 i [] m2) : LW G 807 i [] mem := by
  refine x_aloadn 2 rfl rfl rfl dL_law_807 rfl ?_
  refine l_arg hi hi6 ⟨by decide, by decide⟩ dL_law_808 dL_law_809 dL_law_810 dL_law_811 dL_law_812 rfl ?_
  refine x_callV (d := 2000) (as := [vI (sc G (i + 1))]) dL_law_813 rfl mv_L_105 sh_0 rfl rfl rfl (Nat.le_of_ble_eq_true rfl) ⟨Nat.le_of_ble_eq_true rfl, Nat.le_of_ble_eq_true rfl⟩ ⟨Nat.le_of_ble_eq_true rfl, Nat.le_of_ble_eq_true rfl⟩ (Ct.mono (op_next (d := 2000) (by decide) h sc_inr) (fun r m1 hq => ?_))
  obtain ⟨z, rfl, h2⟩ := hq
  refine x_aloadn 1 rfl rfl rfl dL_law_816 rfl ?_
  refine l_arg hi hi6 ⟨by decide, by decide⟩ dL_law_817 dL_law_818 dL_law_819 dL_law_820 dL_law_821 rfl ?_
  refine x_callV (d := 2000) (as := [vI (sc G (i + 1))]) dL_law_822 rfl mv_L_108 sh_71 rfl rfl rfl (Nat.le_of_ble_eq_true rfl) ⟨Nat.le_of_ble_eq_true rfl, Nat.le_of_ble_eq_true rfl⟩ ⟨Nat.le_of_ble_eq_true rfl, Nat.le_of_ble_eq_true rfl⟩ (Ct.mono h2 (fun r m2 hq => ?_))
  obtain ⟨-, rfl, h3⟩ := hq
  exact l_same dL_law_825 rfl (k m2 (h3.mono (by omega)))
theorem law_rounds (hi : 0 ≤ i) (hi6 : i + 6 ≤ ((gX G).2.1 : Int)) (hJ : J < 1000000) (h : Rl J mem) (k : ∀ m2, Rl (J + 1) m2 → LW G 1315 i [] m2) : LW G 830 i [] mem := by
  refine x_aloadn 2 rfl rfl rfl dL_law_830 rfl ?_
  refine x_callV (d := 2000) (as := []) dL_law_831 rfl mv_L_109 sh_0 rfl rfl rfl (Nat.le_of_ble_eq_true rfl) ⟨Nat.le_of_ble_eq_true rfl, Nat.le_of_ble_eq_true rfl⟩ ⟨Nat.le_of_ble_eq_true rfl, Nat.le_of_ble_eq_true rfl⟩ (Ct.mono (op_rounds (d := 2000) (by decide) h) (fun r m1 hq => ?_))
  obtain ⟨z, rfl, h2⟩ := hq
  refine x_aloadn 1 rfl rfl rfl dL_law_834 rfl ?_
  refine x_callV (d := 2000) (as := []) dL_law_835 rfl mv_L_112 sh_71 rfl rfl rfl (Nat.le_of_ble_eq_true rfl) ⟨Nat.le_of_ble_eq_true rfl, Nat.le_of_ble_eq_true rfl⟩ ⟨Nat.le_of_ble_eq_true rfl, Nat.le_of_ble_eq_true rfl⟩ (Ct.mono h2 (fun r m2 hq => ?_))
  obtain ⟨-, rfl, h3⟩ := hq
  exact l_same dL_law_838 rfl (k m2 (h3.mono (by omega)))
theorem law_likely (hi : 0 ≤ i) (hi6 : i + 6 ≤ ((gX G).2.1 : Int)) (hJ : J < 1000000) (h : Rl J mem) (k : ∀ m2, Rl (J + 1) m2 → LW G 1315 i [] m2) : LW G 843 i [] mem := by
  refine x_aloadn 2 rfl rfl rfl dL_law_843 rfl ?_
  refine x_callV (d := 2000) (as := []) dL_law_844 rfl mv_L_113 sh_0 rfl rfl rfl (Nat.le_of_ble_eq_true rfl) ⟨Nat.le_of_ble_eq_true rfl, Nat.le_of_ble_eq_true rfl⟩ ⟨Nat.le_of_ble_eq_true rfl, Nat.le_of_ble_eq_true rfl⟩ (Ct.mono (op_likely (d := 2000) (by decide) h) (fun r m1 hq => ?_))
  obtain ⟨z, rfl, h2⟩ := hq
  refine x_aloadn 1 rfl rfl rfl dL_law_847 rfl ?_
  refine x_callV (d := 2000) (as := []) dL_law_848 rfl mv_L_116 sh_71 rfl rfl rfl (Nat.le_of_ble_eq_true rfl) ⟨Nat.le_of_ble_eq_true rfl, Nat.le_of_ble_eq_true rfl⟩ ⟨Nat.le_of_ble_eq_true rfl, Nat.le_of_ble_eq_true rfl⟩ (Ct.mono h2 (fun r m2 hq => ?_))
  obtain ⟨-, rfl, h3⟩ := hq
  exact l_same dL_law_851 rfl (k m2 (h3.mono (by omega)))
theorem law_chance (hi : 0 ≤ i) (hi6 : i + 6 ≤ ((gX G).2.1 : Int)) (hJ : J < 1000000) (h : Rl J mem) (k : ∀ m2, Rl (J + 1) m2 → LW G 1315 i [] m2) : LW G 856 i [] mem := by
  refine x_aloadn 2 rfl rfl rfl dL_law_856 rfl ?_
  refine l_arg hi hi6 ⟨by decide, by decide⟩ dL_law_857 dL_law_858 dL_law_859 dL_law_860 dL_law_861 rfl ?_
  refine l_arg hi hi6 ⟨by decide, by decide⟩ dL_law_862 dL_law_863 dL_law_864 dL_law_865 dL_law_866 rfl ?_
  refine x_callV (d := 2000) (as := [vI (sc G (i + 1)), vI (sc G (i + 2))]) dL_law_867 rfl mv_L_117 sh_0 rfl rfl rfl (Nat.le_of_ble_eq_true rfl) ⟨Nat.le_of_ble_eq_true rfl, Nat.le_of_ble_eq_true rfl⟩ ⟨Nat.le_of_ble_eq_true rfl, Nat.le_of_ble_eq_true rfl⟩ (Ct.mono (op_chance (d := 2000) (by decide) h sc_inr sc_inr) (fun r m1 hq => ?_))
  obtain ⟨z, rfl, h2⟩ := hq
  refine x_aloadn 1 rfl rfl rfl dL_law_870 rfl ?_
  refine l_arg hi hi6 ⟨by decide, by decide⟩ dL_law_871 dL_law_872 dL_law_873 dL_law_874 dL_law_875 rfl ?_
  refine l_arg hi hi6 ⟨by decide, by decide⟩ dL_law_876 dL_law_877 dL_law_878 dL_law_879 dL_law_880 rfl ?_
  refine x_callV (d := 2000) (as := [vI (sc G (i + 1)), vI (sc G (i + 2))]) dL_law_881 rfl mv_L_121 sh_71 rfl rfl rfl (Nat.le_of_ble_eq_true rfl) ⟨Nat.le_of_ble_eq_true rfl, Nat.le_of_ble_eq_true rfl⟩ ⟨Nat.le_of_ble_eq_true rfl, Nat.le_of_ble_eq_true rfl⟩ (Ct.mono h2 (fun r m2 hq => ?_))
  obtain ⟨-, rfl, h3⟩ := hq
  exact l_sameL dL_law_884 dL_law_885 rfl (k m2 (h3.mono (by omega)))
theorem law_worst (hi : 0 ≤ i) (hi6 : i + 6 ≤ ((gX G).2.1 : Int)) (hJ : J < 1000000) (h : Rl J mem) (k : ∀ m2, Rl (J + 1) m2 → LW G 1315 i [] m2) : LW G 890 i [] mem := by
  refine x_aloadn 2 rfl rfl rfl dL_law_890 rfl ?_
  refine l_arg hi hi6 ⟨by decide, by decide⟩ dL_law_891 dL_law_892 dL_law_893 dL_law_894 dL_law_895 rfl ?_
  refine l_arg hi hi6 ⟨by decide, by decide⟩ dL_law_896 dL_law_897 dL_law_898 dL_law_899 dL_law_900 rfl ?_
  refine x_callV (d := 2000) (as := [vI (sc G (i + 1)), vI (sc G (i + 2))]) dL_law_901 rfl mv_L_122 sh_0 rfl rfl rfl (Nat.le_of_ble_eq_true rfl) ⟨Nat.le_of_ble_eq_true rfl, Nat.le_of_ble_eq_true rfl⟩ ⟨Nat.le_of_ble_eq_true rfl, Nat.le_of_ble_eq_true rfl⟩ (Ct.mono (op_worst (d := 2000) (by decide) h sc_inr sc_inr) (fun r m1 hq => ?_))
  obtain ⟨z, rfl, h2⟩ := hq
  refine x_aloadn 1 rfl rfl rfl dL_law_904 rfl ?_
  refine l_arg hi hi6 ⟨by decide, by decide⟩ dL_law_905 dL_law_906 dL_law_907 dL_law_908 dL_law_909 rfl ?_
  refine l_arg hi hi6 ⟨by decide, by decide⟩ dL_law_910 dL_law_911 dL_law_912 dL_law_913 dL_law_914 rfl ?_
  refine x_callV (d := 2000) (as := [vI (sc G (i + 1)), vI (sc G (i + 2))]) dL_law_915 rfl mv_L_125 sh_71 rfl rfl rfl (Nat.le_of_ble_eq_true rfl) ⟨Nat.le_of_ble_eq_true rfl, Nat.le_of_ble_eq_true rfl⟩ ⟨Nat.le_of_ble_eq_true rfl, Nat.le_of_ble_eq_true rfl⟩ (Ct.mono h2 (fun r m2 hq => ?_))
  obtain ⟨-, rfl, h3⟩ := hq
  exact l_same dL_law_918 rfl (k m2 (h3.mono (by omega)))
theorem law_mend (hi : 0 ≤ i) (hi6 : i + 6 ≤ ((gX G).2.1 : Int)) (hJ : J < 1000000) (h : Rl J mem) (k : ∀ m2, Rl (J + 1) m2 → LW G 1315 i [] m2) : LW G 923 i [] mem := by
  refine x_aloadn 2 rfl rfl rfl dL_law_923 rfl ?_
  refine l_arg hi hi6 ⟨by decide, by decide⟩ dL_law_924 dL_law_925 dL_law_926 dL_law_927 dL_law_928 rfl ?_
  refine x_callV (d := 2000) (as := [vI (sc G (i + 1))]) dL_law_929 rfl mv_L_126 sh_0 rfl rfl rfl (Nat.le_of_ble_eq_true rfl) ⟨Nat.le_of_ble_eq_true rfl, Nat.le_of_ble_eq_true rfl⟩ ⟨Nat.le_of_ble_eq_true rfl, Nat.le_of_ble_eq_true rfl⟩ (Ct.mono (op_mend (d := 2000) (by decide) h sc_inr) (fun r m1 hq => ?_))
  obtain ⟨z, rfl, h2⟩ := hq
  refine x_aloadn 1 rfl rfl rfl dL_law_932 rfl ?_
  refine l_arg hi hi6 ⟨by decide, by decide⟩ dL_law_933 dL_law_934 dL_law_935 dL_law_936 dL_law_937 rfl ?_
  refine x_callV (d := 2000) (as := [vI (sc G (i + 1))]) dL_law_938 rfl mv_L_129 sh_71 rfl rfl rfl (Nat.le_of_ble_eq_true rfl) ⟨Nat.le_of_ble_eq_true rfl, Nat.le_of_ble_eq_true rfl⟩ ⟨Nat.le_of_ble_eq_true rfl, Nat.le_of_ble_eq_true rfl⟩ (Ct.mono h2 (fun r m2 hq => ?_))
  obtain ⟨-, rfl, h3⟩ := hq
  exact l_same dL_law_941 rfl (k m2 (h3.mono (by omega)))
theorem law_mended (hi : 0 ≤ i) (hi6 : i + 6 ≤ ((gX G).2.1 : Int)) (hJ : J < 1000000) (h : Rl J mem) (k : ∀ m2, Rl (J + 1) m2 → LW G 1315 i [] m2) : LW G 946 i [] mem := by
  refine x_aloadn 2 rfl rfl rfl dL_law_946 rfl ?_
  refine l_arg hi hi6 ⟨by decide, by decide⟩ dL_law_947 dL_law_948 dL_law_949 dL_law_950 dL_law_951 rfl ?_
  refine x_callV (d := 2000) (as := [vI (sc G (i + 1))]) dL_law_952 rfl mv_L_130 sh_0 rfl rfl rfl (Nat.le_of_ble_eq_true rfl) ⟨Nat.le_of_ble_eq_true rfl, Nat.le_of_ble_eq_true rfl⟩ ⟨Nat.le_of_ble_eq_true rfl, Nat.le_of_ble_eq_true rfl⟩ (Ct.mono (op_mended (d := 2000) (by decide) h sc_inr) (fun r m1 hq => ?_))
  obtain ⟨z, rfl, h2⟩ := hq
  refine x_aloadn 1 rfl rfl rfl dL_law_955 rfl ?_
  refine l_arg hi hi6 ⟨by decide, by decide⟩ dL_law_956 dL_law_957 dL_law_958 dL_law_959 dL_law_960 rfl ?_
  refine x_callV (d := 2000) (as := [vI (sc G (i + 1))]) dL_law_961 rfl mv_L_133 sh_71 rfl rfl rfl (Nat.le_of_ble_eq_true rfl) ⟨Nat.le_of_ble_eq_true rfl, Nat.le_of_ble_eq_true rfl⟩ ⟨Nat.le_of_ble_eq_true rfl, Nat.le_of_ble_eq_true rfl⟩ (Ct.mono h2 (fun r m2 hq => ?_))
  obtain ⟨-, rfl, h3⟩ := hq
  exact l_same dL_law_964 rfl (k m2 (h3.mono (by omega)))
theorem law_voice (hi : 0 ≤ i) (hi6 : i + 6 ≤ ((gX G).2.1 : Int)) (hJ : J < 1000000) (h : Rl J mem) (k : ∀ m2, Rl (J + 1) m2 → LW G 1315 i [] m2) : LW G 969 i [] mem := by
  refine x_aloadn 2 rfl rfl rfl dL_law_969 rfl ?_
  refine l_arg hi hi6 ⟨by decide, by decide⟩ dL_law_970 dL_law_971 dL_law_972 dL_law_973 dL_law_974 rfl ?_
  refine l_arg hi hi6 ⟨by decide, by decide⟩ dL_law_975 dL_law_976 dL_law_977 dL_law_978 dL_law_979 rfl ?_
  refine l_arg hi hi6 ⟨by decide, by decide⟩ dL_law_980 dL_law_981 dL_law_982 dL_law_983 dL_law_984 rfl ?_
  refine x_callV (d := 2000) (as := [vI (sc G (i + 1)), vI (sc G (i + 2)), vI (sc G (i + 3))]) dL_law_985 rfl mv_L_134 sh_0 rfl rfl rfl (Nat.le_of_ble_eq_true rfl) ⟨Nat.le_of_ble_eq_true rfl, Nat.le_of_ble_eq_true rfl⟩ ⟨Nat.le_of_ble_eq_true rfl, Nat.le_of_ble_eq_true rfl⟩ (Ct.mono (op_voice (d := 2000) (by decide) h sc_inr sc_inr sc_inr) (fun r m1 hq => ?_))
  obtain ⟨z, rfl, h2⟩ := hq
  refine x_aloadn 1 rfl rfl rfl dL_law_988 rfl ?_
  refine l_arg hi hi6 ⟨by decide, by decide⟩ dL_law_989 dL_law_990 dL_law_991 dL_law_992 dL_law_993 rfl ?_
  refine l_arg hi hi6 ⟨by decide, by decide⟩ dL_law_994 dL_law_995 dL_law_996 dL_law_997 dL_law_998 rfl ?_
  refine l_arg hi hi6 ⟨by decide, by decide⟩ dL_law_999 dL_law_1000 dL_law_1001 dL_law_1002 dL_law_1003 rfl ?_
  refine x_callV (d := 2000) (as := [vI (sc G (i + 1)), vI (sc G (i + 2)), vI (sc G (i + 3))]) dL_law_1004 rfl mv_L_137 sh_71 rfl rfl rfl (Nat.le_of_ble_eq_true rfl) ⟨Nat.le_of_ble_eq_true rfl, Nat.le_of_ble_eq_true rfl⟩ ⟨Nat.le_of_ble_eq_true rfl, Nat.le_of_ble_eq_true rfl⟩ (Ct.mono h2 (fun r m2 hq => ?_))
  obtain ⟨-, rfl, h3⟩ := hq
  exact l_same dL_law_1007 rfl (k m2 (h3.mono (by omega)))
theorem law_body (hi : 0 ≤ i) (hi6 : i + 6 ≤ ((gX G).2.1 : Int)) (hJ : J < 1000000) (h : Rl J mem) (k : ∀ m2, Rl (J + 1) m2 → LW G 1315 i [] m2) : LW G 1012 i [] mem := by
  refine x_aloadn 2 rfl rfl rfl dL_law_1012 rfl ?_
  refine l_arg hi hi6 ⟨by decide, by decide⟩ dL_law_1013 dL_law_1014 dL_law_1015 dL_law_1016 dL_law_1017 rfl ?_
  refine x_callV (d := 2000) (as := [vI (sc G (i + 1))]) dL_law_1018 rfl mv_L_138 sh_0 rfl rfl rfl (Nat.le_of_ble_eq_true rfl) ⟨Nat.le_of_ble_eq_true rfl, Nat.le_of_ble_eq_true rfl⟩ ⟨Nat.le_of_ble_eq_true rfl, Nat.le_of_ble_eq_true rfl⟩ (Ct.mono (op_body (d := 2000) (by decide) h sc_inr) (fun r m1 hq => ?_))
  obtain ⟨z, rfl, h2⟩ := hq
  refine x_aloadn 1 rfl rfl rfl dL_law_1021 rfl ?_
  refine l_arg hi hi6 ⟨by decide, by decide⟩ dL_law_1022 dL_law_1023 dL_law_1024 dL_law_1025 dL_law_1026 rfl ?_
  refine x_callV (d := 2000) (as := [vI (sc G (i + 1))]) dL_law_1027 rfl mv_L_141 sh_71 rfl rfl rfl (Nat.le_of_ble_eq_true rfl) ⟨Nat.le_of_ble_eq_true rfl, Nat.le_of_ble_eq_true rfl⟩ ⟨Nat.le_of_ble_eq_true rfl, Nat.le_of_ble_eq_true rfl⟩ (Ct.mono h2 (fun r m2 hq => ?_))
  obtain ⟨-, rfl, h3⟩ := hq
  exact l_same dL_law_1030 rfl (k m2 (h3.mono (by omega)))
theorem law_sheet (hi : 0 ≤ i) (hi6 : i + 6 ≤ ((gX G).2.1 : Int)) (hJ : J < 1000000) (h : Rl J mem) (k : ∀ m2, Rl (J + 1) m2 → LW G 1315 i [] m2) : LW G 1035 i [] mem := by
  refine x_aloadn 2 rfl rfl rfl dL_law_1035 rfl ?_
  refine l_arg hi hi6 ⟨by decide, by decide⟩ dL_law_1036 dL_law_1037 dL_law_1038 dL_law_1039 dL_law_1040 rfl ?_
  refine l_arg hi hi6 ⟨by decide, by decide⟩ dL_law_1041 dL_law_1042 dL_law_1043 dL_law_1044 dL_law_1045 rfl ?_
  refine l_arg hi hi6 ⟨by decide, by decide⟩ dL_law_1046 dL_law_1047 dL_law_1048 dL_law_1049 dL_law_1050 rfl ?_
  refine x_callV (d := 2000) (as := [vI (sc G (i + 1)), vI (sc G (i + 2)), vI (sc G (i + 3))]) dL_law_1051 rfl mv_L_142 sh_0 rfl rfl rfl (Nat.le_of_ble_eq_true rfl) ⟨Nat.le_of_ble_eq_true rfl, Nat.le_of_ble_eq_true rfl⟩ ⟨Nat.le_of_ble_eq_true rfl, Nat.le_of_ble_eq_true rfl⟩ (Ct.mono (op_sheet (d := 2000) (by decide) h sc_inr sc_inr sc_inr) (fun r m1 hq => ?_))
  obtain ⟨z, rfl, h2⟩ := hq
  refine x_aloadn 1 rfl rfl rfl dL_law_1054 rfl ?_
  refine l_arg hi hi6 ⟨by decide, by decide⟩ dL_law_1055 dL_law_1056 dL_law_1057 dL_law_1058 dL_law_1059 rfl ?_
  refine l_arg hi hi6 ⟨by decide, by decide⟩ dL_law_1060 dL_law_1061 dL_law_1062 dL_law_1063 dL_law_1064 rfl ?_
  refine l_arg hi hi6 ⟨by decide, by decide⟩ dL_law_1065 dL_law_1066 dL_law_1067 dL_law_1068 dL_law_1069 rfl ?_
  refine x_callV (d := 2000) (as := [vI (sc G (i + 1)), vI (sc G (i + 2)), vI (sc G (i + 3))]) dL_law_1070 rfl mv_L_145 sh_71 rfl rfl rfl (Nat.le_of_ble_eq_true rfl) ⟨Nat.le_of_ble_eq_true rfl, Nat.le_of_ble_eq_true rfl⟩ ⟨Nat.le_of_ble_eq_true rfl, Nat.le_of_ble_eq_true rfl⟩ (Ct.mono h2 (fun r m2 hq => ?_))
  obtain ⟨-, rfl, h3⟩ := hq
  exact l_same dL_law_1073 rfl (k m2 (h3.mono (by omega)))
theorem law_put (hi : 0 ≤ i) (hi6 : i + 6 ≤ ((gX G).2.1 : Int)) (hJ : J < 1000000) (h : Rl J mem) (k : ∀ m2, Rl (J + 1) m2 → LW G 1315 i [] m2) : LW G 1078 i [] mem := by
  refine x_aloadn 2 rfl rfl rfl dL_law_1078 rfl ?_
  refine l_arg hi hi6 ⟨by decide, by decide⟩ dL_law_1079 dL_law_1080 dL_law_1081 dL_law_1082 dL_law_1083 rfl ?_
  refine l_arg hi hi6 ⟨by decide, by decide⟩ dL_law_1084 dL_law_1085 dL_law_1086 dL_law_1087 dL_law_1088 rfl ?_
  refine l_arg hi hi6 ⟨by decide, by decide⟩ dL_law_1089 dL_law_1090 dL_law_1091 dL_law_1092 dL_law_1093 rfl ?_
  refine x_callV (d := 2000) (as := [vI (sc G (i + 1)), vI (sc G (i + 2)), vI (sc G (i + 3))]) dL_law_1094 rfl mv_L_146 sh_0 rfl rfl rfl (Nat.le_of_ble_eq_true rfl) ⟨Nat.le_of_ble_eq_true rfl, Nat.le_of_ble_eq_true rfl⟩ ⟨Nat.le_of_ble_eq_true rfl, Nat.le_of_ble_eq_true rfl⟩ (Ct.mono (op_put (d := 2000) (by decide) h sc_inr sc_inr sc_inr) (fun r m1 hq => ?_))
  obtain ⟨z, rfl, h2⟩ := hq
  refine x_aloadn 1 rfl rfl rfl dL_law_1097 rfl ?_
  refine l_arg hi hi6 ⟨by decide, by decide⟩ dL_law_1098 dL_law_1099 dL_law_1100 dL_law_1101 dL_law_1102 rfl ?_
  refine l_arg hi hi6 ⟨by decide, by decide⟩ dL_law_1103 dL_law_1104 dL_law_1105 dL_law_1106 dL_law_1107 rfl ?_
  refine l_arg hi hi6 ⟨by decide, by decide⟩ dL_law_1108 dL_law_1109 dL_law_1110 dL_law_1111 dL_law_1112 rfl ?_
  refine x_callV (d := 2000) (as := [vI (sc G (i + 1)), vI (sc G (i + 2)), vI (sc G (i + 3))]) dL_law_1113 rfl mv_L_149 sh_71 rfl rfl rfl (Nat.le_of_ble_eq_true rfl) ⟨Nat.le_of_ble_eq_true rfl, Nat.le_of_ble_eq_true rfl⟩ ⟨Nat.le_of_ble_eq_true rfl, Nat.le_of_ble_eq_true rfl⟩ (Ct.mono h2 (fun r m2 hq => ?_))
  obtain ⟨-, rfl, h3⟩ := hq
  exact l_same dL_law_1116 rfl (k m2 (h3.mono (by omega)))
theorem law_move (hi : 0 ≤ i) (hi6 : i + 6 ≤ ((gX G).2.1 : Int)) (hJ : J < 1000000) (h : Rl J mem) (k : ∀ m2, Rl (J + 1) m2 → LW G 1315 i [] m2) : LW G 1121 i [] mem := by
  refine x_aloadn 2 rfl rfl rfl dL_law_1121 rfl ?_
  refine l_arg hi hi6 ⟨by decide, by decide⟩ dL_law_1122 dL_law_1123 dL_law_1124 dL_law_1125 dL_law_1126 rfl ?_
  refine l_arg hi hi6 ⟨by decide, by decide⟩ dL_law_1127 dL_law_1128 dL_law_1129 dL_law_1130 dL_law_1131 rfl ?_
  refine l_arg hi hi6 ⟨by decide, by decide⟩ dL_law_1132 dL_law_1133 dL_law_1134 dL_law_1135 dL_law_1136 rfl ?_
  refine l_arg hi hi6 ⟨by decide, by decide⟩ dL_law_1137 dL_law_1138 dL_law_1139 dL_law_1140 dL_law_1141 rfl ?_
  refine l_arg hi hi6 ⟨by decide, by decide⟩ dL_law_1142 dL_law_1143 dL_law_1144 dL_law_1145 dL_law_1146 rfl ?_
  refine x_callV (d := 2000) (as := [vI (sc G (i + 1)), vI (sc G (i + 2)), vI (sc G (i + 3)), vI (sc G (i + 4)), vI (sc G (i + 5))]) dL_law_1147 rfl mv_L_150 sh_0 rfl rfl rfl (Nat.le_of_ble_eq_true rfl) ⟨Nat.le_of_ble_eq_true rfl, Nat.le_of_ble_eq_true rfl⟩ ⟨Nat.le_of_ble_eq_true rfl, Nat.le_of_ble_eq_true rfl⟩ (Ct.mono (op_move (d := 2000) (by decide) h sc_inr sc_inr sc_inr sc_inr sc_inr) (fun r m1 hq => ?_))
  obtain ⟨z, rfl, h2⟩ := hq
  refine x_aloadn 1 rfl rfl rfl dL_law_1150 rfl ?_
  refine l_arg hi hi6 ⟨by decide, by decide⟩ dL_law_1151 dL_law_1152 dL_law_1153 dL_law_1154 dL_law_1155 rfl ?_
  refine l_arg hi hi6 ⟨by decide, by decide⟩ dL_law_1156 dL_law_1157 dL_law_1158 dL_law_1159 dL_law_1160 rfl ?_
  refine l_arg hi hi6 ⟨by decide, by decide⟩ dL_law_1161 dL_law_1162 dL_law_1163 dL_law_1164 dL_law_1165 rfl ?_
  refine l_arg hi hi6 ⟨by decide, by decide⟩ dL_law_1166 dL_law_1167 dL_law_1168 dL_law_1169 dL_law_1170 rfl ?_
  refine l_arg hi hi6 ⟨by decide, by decide⟩ dL_law_1171 dL_law_1172 dL_law_1173 dL_law_1174 dL_law_1175 rfl ?_
  refine x_callV (d := 2000) (as := [vI (sc G (i + 1)), vI (sc G (i + 2)), vI (sc G (i + 3)), vI (sc G (i + 4)), vI (sc G (i + 5))]) dL_law_1176 rfl mv_L_154 sh_71 rfl rfl rfl (Nat.le_of_ble_eq_true rfl) ⟨Nat.le_of_ble_eq_true rfl, Nat.le_of_ble_eq_true rfl⟩ ⟨Nat.le_of_ble_eq_true rfl, Nat.le_of_ble_eq_true rfl⟩ (Ct.mono h2 (fun r m2 hq => ?_))
  obtain ⟨-, rfl, h3⟩ := hq
  exact l_same dL_law_1179 rfl (k m2 (h3.mono (by omega)))
theorem law_says (hi : 0 ≤ i) (hi6 : i + 6 ≤ ((gX G).2.1 : Int)) (hJ : J < 1000000) (h : Rl J mem) (k : ∀ m2, Rl (J + 1) m2 → LW G 1315 i [] m2) : LW G 1184 i [] mem := by
  refine x_aloadn 2 rfl rfl rfl dL_law_1184 rfl ?_
  refine l_arg hi hi6 ⟨by decide, by decide⟩ dL_law_1185 dL_law_1186 dL_law_1187 dL_law_1188 dL_law_1189 rfl ?_
  refine x_callV (d := 2000) (as := [vI (sc G (i + 1))]) dL_law_1190 rfl mv_L_155 sh_0 rfl rfl rfl (Nat.le_of_ble_eq_true rfl) ⟨Nat.le_of_ble_eq_true rfl, Nat.le_of_ble_eq_true rfl⟩ ⟨Nat.le_of_ble_eq_true rfl, Nat.le_of_ble_eq_true rfl⟩ (Ct.mono (op_says (d := 2000) (by decide) h sc_inr) (fun r m1 hq => ?_))
  obtain ⟨z, rfl, h2⟩ := hq
  refine x_aloadn 1 rfl rfl rfl dL_law_1193 rfl ?_
  refine l_arg hi hi6 ⟨by decide, by decide⟩ dL_law_1194 dL_law_1195 dL_law_1196 dL_law_1197 dL_law_1198 rfl ?_
  refine x_callV (d := 2000) (as := [vI (sc G (i + 1))]) dL_law_1199 rfl mv_L_158 sh_71 rfl rfl rfl (Nat.le_of_ble_eq_true rfl) ⟨Nat.le_of_ble_eq_true rfl, Nat.le_of_ble_eq_true rfl⟩ ⟨Nat.le_of_ble_eq_true rfl, Nat.le_of_ble_eq_true rfl⟩ (Ct.mono h2 (fun r m2 hq => ?_))
  obtain ⟨-, rfl, h3⟩ := hq
  exact l_same dL_law_1202 rfl (k m2 (h3.mono (by omega)))
theorem law_image (hi : 0 ≤ i) (hi6 : i + 6 ≤ ((gX G).2.1 : Int)) (hJ : J < 1000000) (h : Rl J mem) (k : ∀ m2, Rl (J + 1) m2 → LW G 1315 i [] m2) : LW G 1207 i [] mem := by
  refine x_aloadn 2 rfl rfl rfl dL_law_1207 rfl ?_
  refine x_callV (d := 2000) (as := []) dL_law_1208 rfl mv_L_159 sh_0 rfl rfl rfl (Nat.le_of_ble_eq_true rfl) ⟨Nat.le_of_ble_eq_true rfl, Nat.le_of_ble_eq_true rfl⟩ ⟨Nat.le_of_ble_eq_true rfl, Nat.le_of_ble_eq_true rfl⟩ (Ct.mono (op_image (d := 2000) (by decide) h hJ) (fun r m1 hq => ?_))
  obtain ⟨z, rfl, h2⟩ := hq
  refine x_aloadn 1 rfl rfl rfl dL_law_1211 rfl ?_
  refine x_callV (d := 2000) (as := []) dL_law_1212 rfl mv_L_162 sh_71 rfl rfl rfl (Nat.le_of_ble_eq_true rfl) ⟨Nat.le_of_ble_eq_true rfl, Nat.le_of_ble_eq_true rfl⟩ ⟨Nat.le_of_ble_eq_true rfl, Nat.le_of_ble_eq_true rfl⟩ (Ct.mono h2 (fun r m2 hq => ?_))
  obtain ⟨-, rfl, h3⟩ := hq
  exact l_same dL_law_1215 rfl (k m2 h3)
theorem law_restore (hi : 0 ≤ i) (hi6 : i + 6 ≤ ((gX G).2.1 : Int)) (hJ : J < 1000000) (h : Rl J mem) (k : ∀ m2, Rl (J + 1) m2 → LW G 1315 i [] m2) : LW G 1220 i [] mem := by
  refine x_aloadn 2 rfl rfl rfl dL_law_1220 rfl ?_
  refine x_callV (d := 2000) (as := []) dL_law_1221 rfl mv_L_163 sh_0 rfl rfl rfl (Nat.le_of_ble_eq_true rfl) ⟨Nat.le_of_ble_eq_true rfl, Nat.le_of_ble_eq_true rfl⟩ ⟨Nat.le_of_ble_eq_true rfl, Nat.le_of_ble_eq_true rfl⟩ (Ct.mono (op_restore (d := 2000) (by decide) h) (fun r m1 hq => ?_))
  obtain ⟨z, rfl, h2⟩ := hq
  refine x_aloadn 1 rfl rfl rfl dL_law_1224 rfl ?_
  refine x_callV (d := 2000) (as := []) dL_law_1225 rfl mv_L_166 sh_71 rfl rfl rfl (Nat.le_of_ble_eq_true rfl) ⟨Nat.le_of_ble_eq_true rfl, Nat.le_of_ble_eq_true rfl⟩ ⟨Nat.le_of_ble_eq_true rfl, Nat.le_of_ble_eq_true rfl⟩ (Ct.mono h2 (fun r m2 hq => ?_))
  obtain ⟨-, rfl, h3⟩ := hq
  exact l_same dL_law_1228 rfl (k m2 (h3.mono (by omega)))
theorem law_tell (hi : 0 ≤ i) (hi6 : i + 6 ≤ ((gX G).2.1 : Int)) (hJ : J < 1000000) (h : Rl J mem) (k : ∀ m2, Rl (J + 1) m2 → LW G 1315 i [] m2) : LW G 1233 i [] mem := by
  refine x_aloadn 2 rfl rfl rfl dL_law_1233 rfl ?_
  refine l_arg hi hi6 ⟨by decide, by decide⟩ dL_law_1234 dL_law_1235 dL_law_1236 dL_law_1237 dL_law_1238 rfl ?_
  refine x_callV (d := 2000) (as := [vI (sc G (i + 1))]) dL_law_1239 rfl mv_L_167 sh_0 rfl rfl rfl (Nat.le_of_ble_eq_true rfl) ⟨Nat.le_of_ble_eq_true rfl, Nat.le_of_ble_eq_true rfl⟩ ⟨Nat.le_of_ble_eq_true rfl, Nat.le_of_ble_eq_true rfl⟩ (Ct.mono (op_tell (d := 2000) (by decide) h sc_inr) (fun r m1 hq => ?_))
  obtain ⟨z, rfl, h2⟩ := hq
  refine x_aloadn 1 rfl rfl rfl dL_law_1242 rfl ?_
  refine l_arg hi hi6 ⟨by decide, by decide⟩ dL_law_1243 dL_law_1244 dL_law_1245 dL_law_1246 dL_law_1247 rfl ?_
  refine x_callV (d := 2000) (as := [vI (sc G (i + 1))]) dL_law_1248 rfl mv_L_170 sh_71 rfl rfl rfl (Nat.le_of_ble_eq_true rfl) ⟨Nat.le_of_ble_eq_true rfl, Nat.le_of_ble_eq_true rfl⟩ ⟨Nat.le_of_ble_eq_true rfl, Nat.le_of_ble_eq_true rfl⟩ (Ct.mono h2 (fun r m2 hq => ?_))
  obtain ⟨-, rfl, h3⟩ := hq
  exact l_same dL_law_1251 rfl (k m2 (h3.mono (by omega)))
theorem law_check (hi : 0 ≤ i) (hi6 : i + 6 ≤ ((gX G).2.1 : Int)) (hJ : J < 1000000) (h : Rl J mem) (k : ∀ m2, Rl (J + 1) m2 → LW G 1315 i [] m2) : LW G 1256 i [] mem := by
  refine x_aloadn 2 rfl rfl rfl dL_law_1256 rfl ?_
  refine x_callV (d := 2000) (as := []) dL_law_1257 rfl mv_L_171 sh_0 rfl rfl rfl (Nat.le_of_ble_eq_true rfl) ⟨Nat.le_of_ble_eq_true rfl, Nat.le_of_ble_eq_true rfl⟩ ⟨Nat.le_of_ble_eq_true rfl, Nat.le_of_ble_eq_true rfl⟩ (Ct.mono (op_check (d := 2000) (by decide) h) (fun r m1 hq => ?_))
  obtain ⟨z, rfl, h2⟩ := hq
  refine x_aloadn 1 rfl rfl rfl dL_law_1260 rfl ?_
  refine x_callV (d := 2000) (as := []) dL_law_1261 rfl mv_L_174 sh_71 rfl rfl rfl (Nat.le_of_ble_eq_true rfl) ⟨Nat.le_of_ble_eq_true rfl, Nat.le_of_ble_eq_true rfl⟩ ⟨Nat.le_of_ble_eq_true rfl, Nat.le_of_ble_eq_true rfl⟩ (Ct.mono h2 (fun r m2 hq => ?_))
  obtain ⟨-, rfl, h3⟩ := hq
  exact l_same dL_law_1264 rfl (k m2 (h3.mono (by omega)))
theorem law_count (hi : 0 ≤ i) (hi6 : i + 6 ≤ ((gX G).2.1 : Int)) (hJ : J < 1000000) (h : Rl J mem) (k : ∀ m2, Rl (J + 1) m2 → LW G 1315 i [] m2) : LW G 1269 i [] mem := by
  refine x_aloadn 2 rfl rfl rfl dL_law_1269 rfl ?_
  refine l_arg hi hi6 ⟨by decide, by decide⟩ dL_law_1270 dL_law_1271 dL_law_1272 dL_law_1273 dL_law_1274 rfl ?_
  refine x_callV (d := 2000) (as := [vI (sc G (i + 1))]) dL_law_1275 rfl mv_L_175 sh_0 rfl rfl rfl (Nat.le_of_ble_eq_true rfl) ⟨Nat.le_of_ble_eq_true rfl, Nat.le_of_ble_eq_true rfl⟩ ⟨Nat.le_of_ble_eq_true rfl, Nat.le_of_ble_eq_true rfl⟩ (Ct.mono (op_count (d := 2000) (by decide) h sc_inr) (fun r m1 hq => ?_))
  obtain ⟨z, rfl, h2⟩ := hq
  refine x_aloadn 1 rfl rfl rfl dL_law_1278 rfl ?_
  refine l_arg hi hi6 ⟨by decide, by decide⟩ dL_law_1279 dL_law_1280 dL_law_1281 dL_law_1282 dL_law_1283 rfl ?_
  refine x_callV (d := 2000) (as := [vI (sc G (i + 1))]) dL_law_1284 rfl mv_L_178 sh_71 rfl rfl rfl (Nat.le_of_ble_eq_true rfl) ⟨Nat.le_of_ble_eq_true rfl, Nat.le_of_ble_eq_true rfl⟩ ⟨Nat.le_of_ble_eq_true rfl, Nat.le_of_ble_eq_true rfl⟩ (Ct.mono h2 (fun r m2 hq => ?_))
  obtain ⟨-, rfl, h3⟩ := hq
  exact l_same dL_law_1287 rfl (k m2 (h3.mono (by omega)))
theorem law_told (hi : 0 ≤ i) (hi6 : i + 6 ≤ ((gX G).2.1 : Int)) (hJ : J < 1000000) (h : Rl J mem) (k : ∀ m2, Rl (J + 1) m2 → LW G 1315 i [] m2) : LW G 1292 i [] mem := by
  refine x_aloadn 2 rfl rfl rfl dL_law_1292 rfl ?_
  refine l_arg hi hi6 ⟨by decide, by decide⟩ dL_law_1293 dL_law_1294 dL_law_1295 dL_law_1296 dL_law_1297 rfl ?_
  refine x_callV (d := 2000) (as := [vI (sc G (i + 1))]) dL_law_1298 rfl mv_L_179 sh_0 rfl rfl rfl (Nat.le_of_ble_eq_true rfl) ⟨Nat.le_of_ble_eq_true rfl, Nat.le_of_ble_eq_true rfl⟩ ⟨Nat.le_of_ble_eq_true rfl, Nat.le_of_ble_eq_true rfl⟩ (Ct.mono (op_told (d := 2000) (by decide) h sc_inr) (fun r m1 hq => ?_))
  obtain ⟨z, rfl, h2⟩ := hq
  refine x_aloadn 1 rfl rfl rfl dL_law_1301 rfl ?_
  refine l_arg hi hi6 ⟨by decide, by decide⟩ dL_law_1302 dL_law_1303 dL_law_1304 dL_law_1305 dL_law_1306 rfl ?_
  refine x_callV (d := 2000) (as := [vI (sc G (i + 1))]) dL_law_1307 rfl mv_L_182 sh_71 rfl rfl rfl (Nat.le_of_ble_eq_true rfl) ⟨Nat.le_of_ble_eq_true rfl, Nat.le_of_ble_eq_true rfl⟩ ⟨Nat.le_of_ble_eq_true rfl, Nat.le_of_ble_eq_true rfl⟩ (Ct.mono h2 (fun r m2 hq => ?_))
  obtain ⟨-, rfl, h3⟩ := hq
  exact l_same dL_law_1310 rfl (k m2 (h3.mono (by omega)))
theorem law_sw (hi : 0 ≤ i) (hi6 : i + 6 ≤ ((gX G).2.1 : Int)) (hJ : J < 1000000) (h : Rl J mem) {a : Int} (ha : inr a) (k : ∀ m2, Rl (J + 1) m2 → LW G 1315 i [] m2) : LW G 33 i [vI a] mem := by
  by_cases hout : a < 0 ∨ 39 < a
  · exact x_tswOut dL_law_33 ha hout rfl (k mem (h.mono (by omega)))
  obtain ⟨n, rfl⟩ : ∃ n : Nat, a = n := ⟨a.toNat, by omega⟩
  have hn : n < 40 := by omega
  have p0 : LW G 33 i [vI ((0 : Nat) : Int)] mem := x_tswIn (z := 0) (tgt := 208) dL_law_33 rfl ⟨by decide, by decide⟩ (by decide) (by decide) rfl rfl (law_machine hi hi6 hJ h k)
  have p1 : LW G 33 i [vI ((1 : Nat) : Int)] mem := x_tswIn (z := 1) (tgt := 251) dL_law_33 rfl ⟨by decide, by decide⟩ (by decide) (by decide) rfl rfl (law_machineIs hi hi6 hJ h k)
  have p2 : LW G 33 i [vI ((2 : Nat) : Int)] mem := x_tswIn (z := 2) (tgt := 284) dL_law_33 rfl ⟨by decide, by decide⟩ (by decide) (by decide) rfl rfl (law_as hi hi6 hJ h k)
  have p3 : LW G 33 i [vI ((3 : Nat) : Int)] mem := x_tswIn (z := 3) (tgt := 317) dL_law_33 rfl ⟨by decide, by decide⟩ (by decide) (by decide) rfl rfl (law_tie hi hi6 hJ h k)
  have p4 : LW G 33 i [vI ((4 : Nat) : Int)] mem := x_tswIn (z := 4) (tgt := 360) dL_law_33 rfl ⟨by decide, by decide⟩ (by decide) (by decide) rfl rfl (law_say hi hi6 hJ h k)
  have p5 : LW G 33 i [vI ((5 : Nat) : Int)] mem := x_tswIn (z := 5) (tgt := 419) dL_law_33 rfl ⟨by decide, by decide⟩ (by decide) (by decide) rfl rfl (law_sayingIs hi hi6 hJ h k)
  have p6 : LW G 33 i [vI ((6 : Nat) : Int)] mem := x_tswIn (z := 6) (tgt := 452) dL_law_33 rfl ⟨by decide, by decide⟩ (by decide) (by decide) rfl rfl (law_unsay hi hi6 hJ h k)
  have p7 : LW G 33 i [vI ((7 : Nat) : Int)] mem := x_tswIn (z := 7) (tgt := 475) dL_law_33 rfl ⟨by decide, by decide⟩ (by decide) (by decide) rfl rfl (law_most hi hi6 hJ h k)
  have p8 : LW G 33 i [vI ((8 : Nat) : Int)] mem := x_tswIn (z := 8) (tgt := 498) dL_law_33 rfl ⟨by decide, by decide⟩ (by decide) (by decide) rfl rfl (law_feed hi hi6 hJ h k)
  have p9 : LW G 33 i [vI ((9 : Nat) : Int)] mem := x_tswIn (z := 9) (tgt := 561) dL_law_33 rfl ⟨by decide, by decide⟩ (by decide) (by decide) rfl rfl (law_text hi hi6 hJ h k)
  have p10 : LW G 33 i [vI ((10 : Nat) : Int)] mem := x_tswIn (z := 10) (tgt := 574) dL_law_33 rfl ⟨by decide, by decide⟩ (by decide) (by decide) rfl rfl (law_fits hi hi6 hJ h k)
  have p11 : LW G 33 i [vI ((11 : Nat) : Int)] mem := x_tswIn (z := 11) (tgt := 597) dL_law_33 rfl ⟨by decide, by decide⟩ (by decide) (by decide) rfl rfl (law_bars hi hi6 hJ h k)
  have p12 : LW G 33 i [vI ((12 : Nat) : Int)] mem := x_tswIn (z := 12) (tgt := 620) dL_law_33 rfl ⟨by decide, by decide⟩ (by decide) (by decide) rfl rfl (law_many hi hi6 hJ h k)
  have p13 : LW G 33 i [vI ((13 : Nat) : Int)] mem := x_tswIn (z := 13) (tgt := 633) dL_law_33 rfl ⟨by decide, by decide⟩ (by decide) (by decide) rfl rfl (law_which hi hi6 hJ h k)
  have p14 : LW G 33 i [vI ((14 : Nat) : Int)] mem := x_tswIn (z := 14) (tgt := 656) dL_law_33 rfl ⟨by decide, by decide⟩ (by decide) (by decide) rfl rfl (law_sure hi hi6 hJ h k)
  have p15 : LW G 33 i [vI ((15 : Nat) : Int)] mem := x_tswIn (z := 15) (tgt := 679) dL_law_33 rfl ⟨by decide, by decide⟩ (by decide) (by decide) rfl rfl (law_blame hi hi6 hJ h k)
  have p16 : LW G 33 i [vI ((16 : Nat) : Int)] mem := x_tswIn (z := 16) (tgt := 702) dL_law_33 rfl ⟨by decide, by decide⟩ (by decide) (by decide) rfl rfl (law_leads hi hi6 hJ h k)
  have p17 : LW G 33 i [vI ((17 : Nat) : Int)] mem := x_tswIn (z := 17) (tgt := 725) dL_law_33 rfl ⟨by decide, by decide⟩ (by decide) (by decide) rfl rfl (law_known hi hi6 hJ h k)
  have p18 : LW G 33 i [vI ((18 : Nat) : Int)] mem := x_tswIn (z := 18) (tgt := 738) dL_law_33 rfl ⟨by decide, by decide⟩ (by decide) (by decide) rfl rfl (law_pair hi hi6 hJ h k)
  have p19 : LW G 33 i [vI ((19 : Nat) : Int)] mem := x_tswIn (z := 19) (tgt := 761) dL_law_33 rfl ⟨by decide, by decide⟩ (by decide) (by decide) rfl rfl (law_more hi hi6 hJ h k)
  have p20 : LW G 33 i [vI ((20 : Nat) : Int)] mem := x_tswIn (z := 20) (tgt := 774) dL_law_33 rfl ⟨by decide, by decide⟩ (by decide) (by decide) rfl rfl (law_without hi hi6 hJ h k)
  have p21 : LW G 33 i [vI ((21 : Nat) : Int)] mem := x_tswIn (z := 21) (tgt := 807) dL_law_33 rfl ⟨by decide, by decide⟩ (by decide) (by decide) rfl rfl (law_next hi hi6 hJ h k)
  have p22 : LW G 33 i [vI ((22 : Nat) : Int)] mem := x_tswIn (z := 22) (tgt := 830) dL_law_33 rfl ⟨by decide, by decide⟩ (by decide) (by decide) rfl rfl (law_rounds hi hi6 hJ h k)
  have p23 : LW G 33 i [vI ((23 : Nat) : Int)] mem := x_tswIn (z := 23) (tgt := 843) dL_law_33 rfl ⟨by decide, by decide⟩ (by decide) (by decide) rfl rfl (law_likely hi hi6 hJ h k)
  have p24 : LW G 33 i [vI ((24 : Nat) : Int)] mem := x_tswIn (z := 24) (tgt := 856) dL_law_33 rfl ⟨by decide, by decide⟩ (by decide) (by decide) rfl rfl (law_chance hi hi6 hJ h k)
  have p25 : LW G 33 i [vI ((25 : Nat) : Int)] mem := x_tswIn (z := 25) (tgt := 890) dL_law_33 rfl ⟨by decide, by decide⟩ (by decide) (by decide) rfl rfl (law_worst hi hi6 hJ h k)
  have p26 : LW G 33 i [vI ((26 : Nat) : Int)] mem := x_tswIn (z := 26) (tgt := 923) dL_law_33 rfl ⟨by decide, by decide⟩ (by decide) (by decide) rfl rfl (law_mend hi hi6 hJ h k)
  have p27 : LW G 33 i [vI ((27 : Nat) : Int)] mem := x_tswIn (z := 27) (tgt := 946) dL_law_33 rfl ⟨by decide, by decide⟩ (by decide) (by decide) rfl rfl (law_mended hi hi6 hJ h k)
  have p28 : LW G 33 i [vI ((28 : Nat) : Int)] mem := x_tswIn (z := 28) (tgt := 969) dL_law_33 rfl ⟨by decide, by decide⟩ (by decide) (by decide) rfl rfl (law_voice hi hi6 hJ h k)
  have p29 : LW G 33 i [vI ((29 : Nat) : Int)] mem := x_tswIn (z := 29) (tgt := 1012) dL_law_33 rfl ⟨by decide, by decide⟩ (by decide) (by decide) rfl rfl (law_body hi hi6 hJ h k)
  have p30 : LW G 33 i [vI ((30 : Nat) : Int)] mem := x_tswIn (z := 30) (tgt := 1035) dL_law_33 rfl ⟨by decide, by decide⟩ (by decide) (by decide) rfl rfl (law_sheet hi hi6 hJ h k)
  have p31 : LW G 33 i [vI ((31 : Nat) : Int)] mem := x_tswIn (z := 31) (tgt := 1078) dL_law_33 rfl ⟨by decide, by decide⟩ (by decide) (by decide) rfl rfl (law_put hi hi6 hJ h k)
  have p32 : LW G 33 i [vI ((32 : Nat) : Int)] mem := x_tswIn (z := 32) (tgt := 1121) dL_law_33 rfl ⟨by decide, by decide⟩ (by decide) (by decide) rfl rfl (law_move hi hi6 hJ h k)
  have p33 : LW G 33 i [vI ((33 : Nat) : Int)] mem := x_tswIn (z := 33) (tgt := 1184) dL_law_33 rfl ⟨by decide, by decide⟩ (by decide) (by decide) rfl rfl (law_says hi hi6 hJ h k)
  have p34 : LW G 33 i [vI ((34 : Nat) : Int)] mem := x_tswIn (z := 34) (tgt := 1207) dL_law_33 rfl ⟨by decide, by decide⟩ (by decide) (by decide) rfl rfl (law_image hi hi6 hJ h k)
  have p35 : LW G 33 i [vI ((35 : Nat) : Int)] mem := x_tswIn (z := 35) (tgt := 1220) dL_law_33 rfl ⟨by decide, by decide⟩ (by decide) (by decide) rfl rfl (law_restore hi hi6 hJ h k)
  have p36 : LW G 33 i [vI ((36 : Nat) : Int)] mem := x_tswIn (z := 36) (tgt := 1233) dL_law_33 rfl ⟨by decide, by decide⟩ (by decide) (by decide) rfl rfl (law_tell hi hi6 hJ h k)
  have p37 : LW G 33 i [vI ((37 : Nat) : Int)] mem := x_tswIn (z := 37) (tgt := 1256) dL_law_33 rfl ⟨by decide, by decide⟩ (by decide) (by decide) rfl rfl (law_check hi hi6 hJ h k)
  have p38 : LW G 33 i [vI ((38 : Nat) : Int)] mem := x_tswIn (z := 38) (tgt := 1269) dL_law_33 rfl ⟨by decide, by decide⟩ (by decide) (by decide) rfl rfl (law_count hi hi6 hJ h k)
  have p39 : LW G 33 i [vI ((39 : Nat) : Int)] mem := x_tswIn (z := 39) (tgt := 1292) dL_law_33 rfl ⟨by decide, by decide⟩ (by decide) (by decide) rfl rfl (law_told hi hi6 hJ h k)
  have hall : ∀ n : Nat, n < 40 → LW G 33 i [vI (n : Int)] mem := (lt_s (lt_s (lt_s (lt_s (lt_s (lt_s (lt_s (lt_s (lt_s (lt_s (lt_s (lt_s (lt_s (lt_s (lt_s (lt_s (lt_s (lt_s (lt_s (lt_s (lt_s (lt_s (lt_s (lt_s (lt_s (lt_s (lt_s (lt_s (lt_s (lt_s (lt_s (lt_s (lt_s (lt_s (lt_s (lt_s (lt_s (lt_s (lt_s (lt_s lt_0 p0) p1) p2) p3) p4) p5) p6) p7) p8) p9) p10) p11) p12) p13) p14) p15) p16) p17) p18) p19) p20) p21) p22) p23) p24) p25) p26) p27) p28) p29) p30) p31) p32) p33) p34) p35) p36) p37) p38) p39)
  exact hall n hn
theorem l_step {i J : Int} {mem : Mem} (hi : 0 ≤ i) (hi9 : i ≤ 1000) (hJ : J ≤ i) (hL : (gX G).2.1 ≤ 384) (h : Rl J mem) (ih : ∀ m2, i + 6 ≤ ((gX G).2.1 : Int) → Rl (J + 1) m2 → LW G 18 (i + 6) [] m2) : LW G 18 i [] mem := by
  have hir : inr i := ⟨by omega, by omega⟩
  refine x_iloadn 0 rfl rfl dL_law_18 rfl ?_
  refine x_aloadn 3 rfl rfl rfl dL_law_19 rfl ?_
  refine x_slen dL_law_20 rfl ?_
  refine x_bipush (by decide) dL_law_21 rfl ?_
  refine x_isub dL_law_23 rfl ?_
  refine x_icmp_gt (tgt := 1321) dL_law_24 rfl rfl hir ⟨by omega, by omega⟩ (fun hc => ?_) (fun hc => ?_)
  · exact x_iconst dL_law_1321 rfl l_end
  · have hi6 : i + 6 ≤ ((gX G).2.1 : Int) := by omega
    refine x_aloadn 3 rfl rfl rfl dL_law_27 rfl ?_
    refine x_iloadn 0 rfl rfl dL_law_28 rfl ?_
    refine x_sld dL_law_29 rfl hi (by omega) ?_
    refine x_bipush (by decide) dL_law_30 rfl ?_
    refine x_iand dL_law_32 rfl ?_
    refine law_sw hi hi6 (by omega) h (iand_inr _ _) (fun m2 h2 => ?_)
    refine x_iinc (ls' := [(3, vI (i + 6)), (2, vR 71), (1, vR 0), (0, vX)]) 0 rfl (by decide) rfl dL_law_1315 rfl ?_
    exact x_goto (tgt := 18) dL_law_1318 rfl (ih m2 hi6 h2)
theorem law_loop : ∀ (n : Nat) (i J : Int) (mem : Mem), 0 ≤ i → i ≤ 1000 → J ≤ i → ((gX G).2.1 : Int) - i < n → (gX G).2.1 ≤ 384 → Rl J mem → LW G 18 i [] mem := by
  intro n
  induction n with
  | zero =>
    intro i J mem hi hi9 hJ hn hL h
    exact l_step hi hi9 hJ hL h (fun m2 h6 h2 => absurd h6 (by omega))
  | succ n ih =>
    intro i J mem hi hi9 hJ hn hL h
    exact l_step hi hi9 hJ hL h (fun m2 h6 h2 => ih (i + 6) (J + 1) m2 (by omega) (by omega) (by omega) (by omega) hL h2)
end LA
