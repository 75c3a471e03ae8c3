/-! ===== words of the constructors ===== -/
theorem ob_im : Cond.instanceMethod Lib.objectInit ∈ CW := at_place 110 (by decide +kernel) (by decide +kernel)
theorem ob_cd : Cond.code Lib.objectInit ⟨#[0xb1]⟩ 1 none ∈ CW := at_place 111 (by decide +kernel) (by decide +kernel)
theorem ac_int : Cond.arrayClass .int ∈ CW := at_place 205 (by decide +kernel) (by decide +kernel)
theorem ac_byte : Cond.arrayClass .byte ∈ CW := at_place 206 (by decide +kernel) (by decide +kernel)
theorem ac_long : Cond.arrayClass .long ∈ CW := at_place 286 (by decide +kernel) (by decide +kernel)
theorem inst_X0 : Cond.instantiable RX0 6 ∈ CW := at_place 288 (by decide +kernel) (by decide +kernel)
theorem im_X0_init : Cond.instanceMethod yX0_init ∈ CW := at_place 290 (by decide +kernel) (by decide +kernel)
theorem cd_X0_init : Cond.code yX0_init cX0_init 2 none ∈ CW := at_place 291 (by decide +kernel) (by decide +kernel)
theorem df_X0 : ∀ j, j < 6 → defaultValue (tyX0 j) = vp_V [.null, .null, .null, .int 0, .int 0, .int 0] j := by
  intro j hj
  match j, hj with
  | 0, _ => rfl
  | 1, _ => rfl
  | 2, _ => rfl
  | 3, _ => rfl
  | 4, _ => rfl
  | 5, _ => rfl
theorem inst_X1 : Cond.instantiable RX1 8 ∈ CW := at_place 230 (by decide +kernel) (by decide +kernel)
theorem im_X1_init : Cond.instanceMethod yX1_init ∈ CW := at_place 232 (by decide +kernel) (by decide +kernel)
theorem cd_X1_init : Cond.code yX1_init cX1_init 2 none ∈ CW := at_place 233 (by decide +kernel) (by decide +kernel)
theorem df_X1 : ∀ j, j < 8 → defaultValue (tyX1 j) = vp_V [.null, .null, .null, .null, .null, .null, .null, .int 0] j := by
  intro j hj
  match j, hj with
  | 0, _ => rfl
  | 1, _ => rfl
  | 2, _ => rfl
  | 3, _ => rfl
  | 4, _ => rfl
  | 5, _ => rfl
  | 6, _ => rfl
  | 7, _ => rfl
theorem inst_X2 : Cond.instantiable RX2 17 ∈ CW := at_place 113 (by decide +kernel) (by decide +kernel)
theorem im_X2_init : Cond.instanceMethod yX2_init ∈ CW := at_place 115 (by decide +kernel) (by decide +kernel)
theorem cd_X2_init : Cond.code yX2_init cX2_init 1 none ∈ CW := at_place 116 (by decide +kernel) (by decide +kernel)
theorem df_X2 : ∀ j, j < 17 → defaultValue (tyX2 j) = vp_V [.int 0, .null, .null, .null, .null, .null, .int 0, .null, .null, .long 0, .long 0, .int 0, .null, .int 0, .null, .int 0, .int 0] j := by
  intro j hj
  match j, hj with
  | 0, _ => rfl
  | 1, _ => rfl
  | 2, _ => rfl
  | 3, _ => rfl
  | 4, _ => rfl
  | 5, _ => rfl
  | 6, _ => rfl
  | 7, _ => rfl
  | 8, _ => rfl
  | 9, _ => rfl
  | 10, _ => rfl
  | 11, _ => rfl
  | 12, _ => rfl
  | 13, _ => rfl
  | 14, _ => rfl
  | 15, _ => rfl
  | 16, _ => rfl
  | j + 17, h => exact absurd h (by omega)
theorem inst_X4 : Cond.instantiable RX4 5 ∈ CW := at_place 208 (by decide +kernel) (by decide +kernel)
theorem im_X4_init : Cond.instanceMethod yX4_init ∈ CW := at_place 210 (by decide +kernel) (by decide +kernel)
theorem cd_X4_init : Cond.code yX4_init cX4_init 2 none ∈ CW := at_place 211 (by decide +kernel) (by decide +kernel)
theorem df_X4 : ∀ j, j < 5 → defaultValue (tyX4 j) = vp_V [.null, .int 0, .int 0, .int 0, .int 0] j := by
  intro j hj
  match j, hj with
  | 0, _ => rfl
  | 1, _ => rfl
  | 2, _ => rfl
  | 3, _ => rfl
  | 4, _ => rfl
theorem inst_X5 : Cond.instantiable RX5 10 ∈ CW := at_place 339 (by decide +kernel) (by decide +kernel)
theorem im_X5_init : Cond.instanceMethod yX5_init ∈ CW := at_place 341 (by decide +kernel) (by decide +kernel)
theorem cd_X5_init : Cond.code yX5_init cX5_init 2 none ∈ CW := at_place 342 (by decide +kernel) (by decide +kernel)
theorem df_X5 : ∀ j, j < 10 → defaultValue (tyX5 j) = vp_V [.null, .null, .null, .null, .null, .null, .null, .int 0, .int 0, .int 0] j := by
  intro j hj
  match j, hj with
  | 0, _ => rfl
  | 1, _ => rfl
  | 2, _ => rfl
  | 3, _ => rfl
  | 4, _ => rfl
  | 5, _ => rfl
  | 6, _ => rfl
  | 7, _ => rfl
  | 8, _ => rfl
  | 9, _ => rfl
theorem inst_X6 : Cond.instantiable RX6 3 ∈ CW := at_place 412 (by decide +kernel) (by decide +kernel)
theorem im_X6_init : Cond.instanceMethod yX6_init ∈ CW := at_place 414 (by decide +kernel) (by decide +kernel)
theorem cd_X6_init : Cond.code yX6_init cX6_init 1 none ∈ CW := at_place 415 (by decide +kernel) (by decide +kernel)
theorem df_X6 : ∀ j, j < 3 → defaultValue (tyX6 j) = vp_V [.null, .int 0, .int 0] j := by
  intro j hj
  match j, hj with
  | 0, _ => rfl
  | 1, _ => rfl
  | 2, _ => rfl
theorem inst_X7 : Cond.instantiable RX7 4 ∈ CW := at_place 236 (by decide +kernel) (by decide +kernel)
theorem im_X7_init : Cond.instanceMethod yX7_init ∈ CW := at_place 238 (by decide +kernel) (by decide +kernel)
theorem cd_X7_init : Cond.code yX7_init cX7_init 1 none ∈ CW := at_place 239 (by decide +kernel) (by decide +kernel)
theorem df_X7 : ∀ j, j < 4 → defaultValue (tyX7 j) = vp_V [.null, .null, .null, .int 0] j := by
  intro j hj
  match j, hj with
  | 0, _ => rfl
  | 1, _ => rfl
  | 2, _ => rfl
  | 3, _ => rfl
theorem inst_X8 : Cond.instantiable RX8 6 ∈ CW := at_place 313 (by decide +kernel) (by decide +kernel)
theorem im_X8_init : Cond.instanceMethod yX8_init ∈ CW := at_place 315 (by decide +kernel) (by decide +kernel)
theorem cd_X8_init : Cond.code yX8_init cX8_init 3 none ∈ CW := at_place 316 (by decide +kernel) (by decide +kernel)
theorem df_X8 : ∀ j, j < 6 → defaultValue (tyX8 j) = vp_V [.null, .null, .null, .null, .null, .int 0] j := by
  intro j hj
  match j, hj with
  | 0, _ => rfl
  | 1, _ => rfl
  | 2, _ => rfl
  | 3, _ => rfl
  | 4, _ => rfl
  | 5, _ => rfl
theorem inst_X9 : Cond.instantiable RX9 7 ∈ CW := at_place 380 (by decide +kernel) (by decide +kernel)
theorem im_X9_init : Cond.instanceMethod yX9_init ∈ CW := at_place 382 (by decide +kernel) (by decide +kernel)
theorem cd_X9_init : Cond.code yX9_init cX9_init 1 none ∈ CW := at_place 383 (by decide +kernel) (by decide +kernel)
theorem df_X9 : ∀ j, j < 7 → defaultValue (tyX9 j) = vp_V [.null, .int 0, .int 0, .int 0, .int 0, .int 0, .int 0] j := by
  intro j hj
  match j, hj with
  | 0, _ => rfl
  | 1, _ => rfl
  | 2, _ => rfl
  | 3, _ => rfl
  | 4, _ => rfl
  | 5, _ => rfl
  | 6, _ => rfl
theorem inst_X10 : Cond.instantiable RX10 12 ∈ CW := at_place 105 (by decide +kernel) (by decide +kernel)
theorem im_X10_init : Cond.instanceMethod yX10_init ∈ CW := at_place 107 (by decide +kernel) (by decide +kernel)
theorem cd_X10_init : Cond.code yX10_init cX10_init 2 none ∈ CW := at_place 108 (by decide +kernel) (by decide +kernel)
theorem df_X10 : ∀ j, j < 12 → defaultValue (tyX10 j) = vp_V [.null, .null, .null, .null, .null, .null, .null, .null, .null, .null, .null, .int 0] j := by
  intro j hj
  match j, hj with
  | 0, _ => rfl
  | 1, _ => rfl
  | 2, _ => rfl
  | 3, _ => rfl
  | 4, _ => rfl
  | 5, _ => rfl
  | 6, _ => rfl
  | 7, _ => rfl
  | 8, _ => rfl
  | 9, _ => rfl
  | 10, _ => rfl
  | 11, _ => rfl
theorem inst_X11 : Cond.instantiable RX11 28 ∈ CW := at_place 1204 (by decide +kernel) (by decide +kernel)
theorem im_X11_init : Cond.instanceMethod yX11_init ∈ CW := at_place 1206 (by decide +kernel) (by decide +kernel)
theorem cd_X11_init : Cond.code yX11_init cX11_init 1 none ∈ CW := at_place 1207 (by decide +kernel) (by decide +kernel)
theorem df_X11 : ∀ j, j < 28 → defaultValue (tyX11 j) = vp_V [.null, .null, .null, .int 0, .null, .null, .int 0, .int 0, .int 0, .null, .null, .null, .int 0, .null, .int 0, .null, .null, .null, .null, .null, .null, .int 0, .int 0, .int 0, .null, .null, .null, .null] j := by
  intro j hj
  match j, hj with
  | 0, _ => rfl
  | 1, _ => rfl
  | 2, _ => rfl
  | 3, _ => rfl
  | 4, _ => rfl
  | 5, _ => rfl
  | 6, _ => rfl
  | 7, _ => rfl
  | 8, _ => rfl
  | 9, _ => rfl
  | 10, _ => rfl
  | 11, _ => rfl
  | 12, _ => rfl
  | 13, _ => rfl
  | 14, _ => rfl
  | 15, _ => rfl
  | 16, _ => rfl
  | 17, _ => rfl
  | 18, _ => rfl
  | 19, _ => rfl
  | 20, _ => rfl
  | 21, _ => rfl
  | 22, _ => rfl
  | 23, _ => rfl
  | 24, _ => rfl
  | 25, _ => rfl
  | 26, _ => rfl
  | 27, _ => rfl
  | j + 28, h => exact absurd h (by omega)
theorem ob_X2_3 : Cond.methodLink RX2 3 Lib.objectInit ∈ CW := at_place 117 (by decide +kernel) (by decide +kernel)
theorem fq_X2_9 : FQ RX2 9 2 1 (.array .int) := ⟨RX2, TX2, 17, tyX2, rfl, by decide, inCX2, at_place 125 (by decide +kernel) (by decide +kernel), tyX2_ok, nmX2, rfl, fun _ => rfl⟩
theorem fq_X2_15 : FQ RX2 15 2 2 (.array .int) := ⟨RX2, TX2, 17, tyX2, rfl, by decide, inCX2, at_place 131 (by decide +kernel) (by decide +kernel), tyX2_ok, nmX2, rfl, fun _ => rfl⟩
theorem fq_X2_18 : FQ RX2 18 2 3 (.array .int) := ⟨RX2, TX2, 17, tyX2, rfl, by decide, inCX2, at_place 135 (by decide +kernel) (by decide +kernel), tyX2_ok, nmX2, rfl, fun _ => rfl⟩
theorem fq_X2_21 : FQ RX2 21 2 4 (.array .int) := ⟨RX2, TX2, 17, tyX2, rfl, by decide, inCX2, at_place 139 (by decide +kernel) (by decide +kernel), tyX2_ok, nmX2, rfl, fun _ => rfl⟩
theorem fq_X2_24 : FQ RX2 24 2 5 (.array .int) := ⟨RX2, TX2, 17, tyX2, rfl, by decide, inCX2, at_place 143 (by decide +kernel) (by decide +kernel), tyX2_ok, nmX2, rfl, fun _ => rfl⟩
theorem fq_X2_27 : FQ RX2 27 2 7 (.array .int) := ⟨RX2, TX2, 17, tyX2, rfl, by decide, inCX2, at_place 147 (by decide +kernel) (by decide +kernel), tyX2_ok, nmX2, rfl, fun _ => rfl⟩
theorem fq_X2_30 : FQ RX2 30 2 8 (.array .int) := ⟨RX2, TX2, 17, tyX2, rfl, by decide, inCX2, at_place 150 (by decide +kernel) (by decide +kernel), tyX2_ok, nmX2, rfl, fun _ => rfl⟩
theorem fq_X2_33 : FQ RX2 33 2 11 .int := ⟨RX2, TX2, 17, tyX2, rfl, by decide, inCX2, at_place 155 (by decide +kernel) (by decide +kernel), tyX2_ok, nmX2, rfl, fun _ => rfl⟩
theorem fq_X2_37 : FQ RX2 37 2 12 (.array .byte) := ⟨RX2, TX2, 17, tyX2, rfl, by decide, inCX2, at_place 159 (by decide +kernel) (by decide +kernel), tyX2_ok, nmX2, rfl, fun _ => rfl⟩
theorem fq_X2_41 : FQ RX2 41 2 14 (.array .int) := ⟨RX2, TX2, 17, tyX2, rfl, by decide, inCX2, at_place 164 (by decide +kernel) (by decide +kernel), tyX2_ok, nmX2, rfl, fun _ => rfl⟩
theorem fq_X2_44 : FQ RX2 44 2 16 .boolean := ⟨RX2, TX2, 17, tyX2, rfl, by decide, inCX2, at_place 168 (by decide +kernel) (by decide +kernel), tyX2_ok, nmX2, rfl, fun _ => rfl⟩
theorem ob_X7_3 : Cond.methodLink RX7 3 Lib.objectInit ∈ CW := at_place 240 (by decide +kernel) (by decide +kernel)
theorem fq_X7_9 : FQ RX7 9 6 0 (.array .int) := ⟨RX7, TX7, 4, tyX7, rfl, by decide, inCX7, at_place 241 (by decide +kernel) (by decide +kernel), tyX7_ok, nmX7, rfl, fun _ => rfl⟩
theorem fq_X7_15 : FQ RX7 15 6 1 (.array .int) := ⟨RX7, TX7, 4, tyX7, rfl, by decide, inCX7, at_place 244 (by decide +kernel) (by decide +kernel), tyX7_ok, nmX7, rfl, fun _ => rfl⟩
theorem fq_X7_18 : FQ RX7 18 6 2 (.array .int) := ⟨RX7, TX7, 4, tyX7, rfl, by decide, inCX7, at_place 245 (by decide +kernel) (by decide +kernel), tyX7_ok, nmX7, rfl, fun _ => rfl⟩
theorem ob_X6_3 : Cond.methodLink RX6 3 Lib.objectInit ∈ CW := at_place 416 (by decide +kernel) (by decide +kernel)
theorem fq_X6_9 : FQ RX6 9 5 0 (.array .int) := ⟨RX6, TX6, 3, tyX6, rfl, by decide, inCX6, at_place 417 (by decide +kernel) (by decide +kernel), tyX6_ok, nmX6, rfl, fun _ => rfl⟩
theorem ob_X4_3 : Cond.methodLink RX4 3 Lib.objectInit ∈ CW := at_place 212 (by decide +kernel) (by decide +kernel)
theorem fq_X4_9 : FQ RX4 9 3 0 (.object "PoliteHall$Hall") := ⟨RX4, TX4, 5, tyX4, rfl, by decide, inCX4, at_place 213 (by decide +kernel) (by decide +kernel), tyX4_ok, nmX4, rfl, fun _ => rfl⟩
theorem ob_X1_3 : Cond.methodLink RX1 3 Lib.objectInit ∈ CW := at_place 234 (by decide +kernel) (by decide +kernel)
theorem nw_X1_9 : NewW RX1 9 6 4 [.null, .null, .null, .int 0] := ⟨RX7, TX7, tyX7, rfl, inCX7, tyX7_ok, at_place 235 (by decide +kernel) (by decide +kernel), inst_X7, ini_X7, df_X7⟩
theorem mi_X1_11 : MI RX1 11 yX7_init cX7_init 1 0 := ⟨Or.inr ⟨"PoliteHall", at_placeN 237 (by decide +kernel) (by decide +kernel)⟩, im_X7_init, ini_X7, cd_X7_init, rfl, by decide +kernel, by decide +kernel, by decide +kernel⟩
theorem fq_X1_12 : FQ RX1 12 1 1 (.object "PoliteHall$Tally") := ⟨RX1, TX1, 8, tyX1, rfl, by decide, inCX1, at_place 257 (by decide +kernel) (by decide +kernel), tyX1_ok, nmX1, rfl, fun _ => rfl⟩
theorem fq_X1_18 : FQ RX1 18 1 2 (.array .int) := ⟨RX1, TX1, 8, tyX1, rfl, by decide, inCX1, at_place 258 (by decide +kernel) (by decide +kernel), tyX1_ok, nmX1, rfl, fun _ => rfl⟩
theorem fq_X1_22 : FQ RX1 22 1 3 (.array .int) := ⟨RX1, TX1, 8, tyX1, rfl, by decide, inCX1, at_place 261 (by decide +kernel) (by decide +kernel), tyX1_ok, nmX1, rfl, fun _ => rfl⟩
theorem fq_X1_25 : FQ RX1 25 1 4 (.array .int) := ⟨RX1, TX1, 8, tyX1, rfl, by decide, inCX1, at_place 262 (by decide +kernel) (by decide +kernel), tyX1_ok, nmX1, rfl, fun _ => rfl⟩
theorem fq_X1_28 : FQ RX1 28 1 5 (.array .int) := ⟨RX1, TX1, 8, tyX1, rfl, by decide, inCX1, at_place 264 (by decide +kernel) (by decide +kernel), tyX1_ok, nmX1, rfl, fun _ => rfl⟩
theorem fq_X1_31 : FQ RX1 31 1 6 (.array .long) := ⟨RX1, TX1, 8, tyX1, rfl, by decide, inCX1, at_place 265 (by decide +kernel) (by decide +kernel), tyX1_ok, nmX1, rfl, fun _ => rfl⟩
theorem fq_X1_35 : FQ RX1 35 1 0 (.object "PoliteHall$Hall") := ⟨RX1, TX1, 8, tyX1, rfl, by decide, inCX1, at_place 256 (by decide +kernel) (by decide +kernel), tyX1_ok, nmX1, rfl, fun _ => rfl⟩
theorem ob_X0_3 : Cond.methodLink RX0 3 Lib.objectInit ∈ CW := at_place 292 (by decide +kernel) (by decide +kernel)
theorem fq_X0_9 : FQ RX0 9 0 1 (.array .int) := ⟨RX0, TX0, 6, tyX0, rfl, by decide, inCX0, at_place 294 (by decide +kernel) (by decide +kernel), tyX0_ok, nmX0, rfl, fun _ => rfl⟩
theorem fq_X0_15 : FQ RX0 15 0 2 (.array .int) := ⟨RX0, TX0, 6, tyX0, rfl, by decide, inCX0, at_place 295 (by decide +kernel) (by decide +kernel), tyX0_ok, nmX0, rfl, fun _ => rfl⟩
theorem fq_X0_18 : FQ RX0 18 0 0 (.object "PoliteHall$Hall") := ⟨RX0, TX0, 6, tyX0, rfl, by decide, inCX0, at_place 293 (by decide +kernel) (by decide +kernel), tyX0_ok, nmX0, rfl, fun _ => rfl⟩
theorem ob_X8_3 : Cond.methodLink RX8 3 Lib.objectInit ∈ CW := at_place 317 (by decide +kernel) (by decide +kernel)
theorem fq_X8_9 : FQ RX8 9 7 2 (.array .int) := ⟨RX8, TX8, 6, tyX8, rfl, by decide, inCX8, at_place 320 (by decide +kernel) (by decide +kernel), tyX8_ok, nmX8, rfl, fun _ => rfl⟩
theorem fq_X8_15 : FQ RX8 15 7 3 (.array .int) := ⟨RX8, TX8, 6, tyX8, rfl, by decide, inCX8, at_place 321 (by decide +kernel) (by decide +kernel), tyX8_ok, nmX8, rfl, fun _ => rfl⟩
theorem fq_X8_18 : FQ RX8 18 7 4 (.array .int) := ⟨RX8, TX8, 6, tyX8, rfl, by decide, inCX8, at_place 322 (by decide +kernel) (by decide +kernel), tyX8_ok, nmX8, rfl, fun _ => rfl⟩
theorem fq_X8_21 : FQ RX8 21 7 0 (.object "PoliteHall$Hall") := ⟨RX8, TX8, 6, tyX8, rfl, by decide, inCX8, at_place 318 (by decide +kernel) (by decide +kernel), tyX8_ok, nmX8, rfl, fun _ => rfl⟩
theorem fq_X8_25 : FQ RX8 25 7 1 (.object "PoliteHall$Fitting") := ⟨RX8, TX8, 6, tyX8, rfl, by decide, inCX8, at_place 319 (by decide +kernel) (by decide +kernel), tyX8_ok, nmX8, rfl, fun _ => rfl⟩
theorem ob_X5_3 : Cond.methodLink RX5 3 Lib.objectInit ∈ CW := at_place 343 (by decide +kernel) (by decide +kernel)
theorem nw_X5_9 : NewW RX5 9 6 4 [.null, .null, .null, .int 0] := ⟨RX7, TX7, tyX7, rfl, inCX7, tyX7_ok, at_place 344 (by decide +kernel) (by decide +kernel), inst_X7, ini_X7, df_X7⟩
theorem mi_X5_11 : MI RX5 11 yX7_init cX7_init 1 0 := ⟨Or.inr ⟨"PoliteHall", at_placeN 345 (by decide +kernel) (by decide +kernel)⟩, im_X7_init, ini_X7, cd_X7_init, rfl, by decide +kernel, by decide +kernel, by decide +kernel⟩
theorem fq_X5_12 : FQ RX5 12 4 1 (.object "PoliteHall$Tally") := ⟨RX5, TX5, 10, tyX5, rfl, by decide, inCX5, at_place 347 (by decide +kernel) (by decide +kernel), tyX5_ok, nmX5, rfl, fun _ => rfl⟩
theorem fq_X5_18 : FQ RX5 18 4 2 (.array .int) := ⟨RX5, TX5, 10, tyX5, rfl, by decide, inCX5, at_place 348 (by decide +kernel) (by decide +kernel), tyX5_ok, nmX5, rfl, fun _ => rfl⟩
theorem fq_X5_22 : FQ RX5 22 4 3 (.array .int) := ⟨RX5, TX5, 10, tyX5, rfl, by decide, inCX5, at_place 349 (by decide +kernel) (by decide +kernel), tyX5_ok, nmX5, rfl, fun _ => rfl⟩
theorem fq_X5_25 : FQ RX5 25 4 4 (.array .int) := ⟨RX5, TX5, 10, tyX5, rfl, by decide, inCX5, at_place 350 (by decide +kernel) (by decide +kernel), tyX5_ok, nmX5, rfl, fun _ => rfl⟩
theorem fq_X5_28 : FQ RX5 28 4 5 (.array .int) := ⟨RX5, TX5, 10, tyX5, rfl, by decide, inCX5, at_place 351 (by decide +kernel) (by decide +kernel), tyX5_ok, nmX5, rfl, fun _ => rfl⟩
theorem fq_X5_31 : FQ RX5 31 4 6 (.array .int) := ⟨RX5, TX5, 10, tyX5, rfl, by decide, inCX5, at_place 352 (by decide +kernel) (by decide +kernel), tyX5_ok, nmX5, rfl, fun _ => rfl⟩
theorem fq_X5_34 : FQ RX5 34 4 0 (.object "PoliteHall$Hall") := ⟨RX5, TX5, 10, tyX5, rfl, by decide, inCX5, at_place 346 (by decide +kernel) (by decide +kernel), tyX5_ok, nmX5, rfl, fun _ => rfl⟩
theorem ob_X9_3 : Cond.methodLink RX9 3 Lib.objectInit ∈ CW := at_place 384 (by decide +kernel) (by decide +kernel)
theorem fq_X9_9 : FQ RX9 9 8 0 (.array .int) := ⟨RX9, TX9, 7, tyX9, rfl, by decide, inCX9, at_place 385 (by decide +kernel) (by decide +kernel), tyX9_ok, nmX9, rfl, fun _ => rfl⟩
theorem ob_X10_3 : Cond.methodLink RX10 3 Lib.objectInit ∈ CW := at_place 109 (by decide +kernel) (by decide +kernel)
theorem nw_X10_9 : NewW RX10 9 2 17 [.int 0, .null, .null, .null, .null, .null, .int 0, .null, .null, .long 0, .long 0, .int 0, .null, .int 0, .null, .int 0, .int 0] := ⟨RX2, TX2, tyX2, rfl, inCX2, tyX2_ok, at_place 112 (by decide +kernel) (by decide +kernel), inst_X2, ini_X2, df_X2⟩
theorem mi_X10_11 : MI RX10 11 yX2_init cX2_init 1 0 := ⟨Or.inr ⟨"PoliteHall", at_placeN 114 (by decide +kernel) (by decide +kernel)⟩, im_X2_init, ini_X2, cd_X2_init, rfl, by decide +kernel, by decide +kernel, by decide +kernel⟩
theorem fq_X10_12 : FQ RX10 12 9 0 (.object "PoliteHall$Hall") := ⟨RX10, TX10, 12, tyX10, rfl, by decide, inCX10, at_place 430 (by decide +kernel) (by decide +kernel), tyX10_ok, nmX10, rfl, fun _ => rfl⟩
theorem fq_X10_16 : FQ RX10 16 9 1 (.object "PoliteHall$Hall") := ⟨RX10, TX10, 12, tyX10, rfl, by decide, inCX10, at_place 431 (by decide +kernel) (by decide +kernel), tyX10_ok, nmX10, rfl, fun _ => rfl⟩
theorem fq_X10_19 : FQ RX10 19 9 2 (.object "PoliteHall$Hall") := ⟨RX10, TX10, 12, tyX10, rfl, by decide, inCX10, at_place 432 (by decide +kernel) (by decide +kernel), tyX10_ok, nmX10, rfl, fun _ => rfl⟩
theorem nw_X10_22 : NewW RX10 22 3 5 [.null, .int 0, .int 0, .int 0, .int 0] := ⟨RX4, TX4, tyX4, rfl, inCX4, tyX4_ok, at_place 207 (by decide +kernel) (by decide +kernel), inst_X4, ini_X4, df_X4⟩
theorem mi_X10_24 : MI RX10 24 yX4_init cX4_init 2 1 := ⟨Or.inl (at_place 209 (by decide +kernel) (by decide +kernel)), im_X4_init, ini_X4, cd_X4_init, rfl, by decide +kernel, by decide +kernel, by decide +kernel⟩
theorem fq_X10_27 : FQ RX10 27 9 3 (.object "PoliteHall$Reader") := ⟨RX10, TX10, 12, tyX10, rfl, by decide, inCX10, at_place 433 (by decide +kernel) (by decide +kernel), tyX10_ok, nmX10, rfl, fun _ => rfl⟩
theorem nw_X10_31 : NewW RX10 31 1 8 [.null, .null, .null, .null, .null, .null, .null, .int 0] := ⟨RX1, TX1, tyX1, rfl, inCX1, tyX1_ok, at_place 229 (by decide +kernel) (by decide +kernel), inst_X1, ini_X1, df_X1⟩
theorem mi_X10_33 : MI RX10 33 yX1_init cX1_init 2 1 := ⟨Or.inl (at_place 231 (by decide +kernel) (by decide +kernel)), im_X1_init, ini_X1, cd_X1_init, rfl, by decide +kernel, by decide +kernel, by decide +kernel⟩
theorem fq_X10_34 : FQ RX10 34 9 4 (.object "PoliteHall$Fitting") := ⟨RX10, TX10, 12, tyX10, rfl, by decide, inCX10, at_place 434 (by decide +kernel) (by decide +kernel), tyX10_ok, nmX10, rfl, fun _ => rfl⟩
theorem nw_X10_38 : NewW RX10 38 0 6 [.null, .null, .null, .int 0, .int 0, .int 0] := ⟨RX0, TX0, tyX0, rfl, inCX0, tyX0_ok, at_place 287 (by decide +kernel) (by decide +kernel), inst_X0, ini_X0, df_X0⟩
theorem mi_X10_40 : MI RX10 40 yX0_init cX0_init 2 1 := ⟨Or.inl (at_place 289 (by decide +kernel) (by decide +kernel)), im_X0_init, ini_X0, cd_X0_init, rfl, by decide +kernel, by decide +kernel, by decide +kernel⟩
theorem fq_X10_41 : FQ RX10 41 9 5 (.object "PoliteHall$Doubt") := ⟨RX10, TX10, 12, tyX10, rfl, by decide, inCX10, at_place 435 (by decide +kernel) (by decide +kernel), tyX10_ok, nmX10, rfl, fun _ => rfl⟩
theorem nw_X10_45 : NewW RX10 45 7 6 [.null, .null, .null, .null, .null, .int 0] := ⟨RX8, TX8, tyX8, rfl, inCX8, tyX8_ok, at_place 312 (by decide +kernel) (by decide +kernel), inst_X8, ini_X8, df_X8⟩
theorem mi_X10_47 : MI RX10 47 yX8_init cX8_init 3 2 := ⟨Or.inl (at_place 314 (by decide +kernel) (by decide +kernel)), im_X8_init, ini_X8, cd_X8_init, rfl, by decide +kernel, by decide +kernel, by decide +kernel⟩
theorem fq_X10_50 : FQ RX10 50 9 6 (.object "PoliteHall$Trials") := ⟨RX10, TX10, 12, tyX10, rfl, by decide, inCX10, at_place 436 (by decide +kernel) (by decide +kernel), tyX10_ok, nmX10, rfl, fun _ => rfl⟩
theorem nw_X10_54 : NewW RX10 54 4 10 [.null, .null, .null, .null, .null, .null, .null, .int 0, .int 0, .int 0] := ⟨RX5, TX5, tyX5, rfl, inCX5, tyX5_ok, at_place 338 (by decide +kernel) (by decide +kernel), inst_X5, ini_X5, df_X5⟩
theorem mi_X10_56 : MI RX10 56 yX5_init cX5_init 2 1 := ⟨Or.inl (at_place 340 (by decide +kernel) (by decide +kernel)), im_X5_init, ini_X5, cd_X5_init, rfl, by decide +kernel, by decide +kernel, by decide +kernel⟩
theorem fq_X10_57 : FQ RX10 57 9 7 (.object "PoliteHall$Rumour") := ⟨RX10, TX10, 12, tyX10, rfl, by decide, inCX10, at_place 437 (by decide +kernel) (by decide +kernel), tyX10_ok, nmX10, rfl, fun _ => rfl⟩
theorem nw_X10_61 : NewW RX10 61 8 7 [.null, .int 0, .int 0, .int 0, .int 0, .int 0, .int 0] := ⟨RX9, TX9, tyX9, rfl, inCX9, tyX9_ok, at_place 379 (by decide +kernel) (by decide +kernel), inst_X9, ini_X9, df_X9⟩
theorem mi_X10_63 : MI RX10 63 yX9_init cX9_init 1 0 := ⟨Or.inr ⟨"PoliteHall", at_placeN 381 (by decide +kernel) (by decide +kernel)⟩, im_X9_init, ini_X9, cd_X9_init, rfl, by decide +kernel, by decide +kernel, by decide +kernel⟩
theorem fq_X10_64 : FQ RX10 64 9 8 (.object "PoliteHall$Voices") := ⟨RX10, TX10, 12, tyX10, rfl, by decide, inCX10, at_place 438 (by decide +kernel) (by decide +kernel), tyX10_ok, nmX10, rfl, fun _ => rfl⟩
theorem cl_X10_68 : Cond.classLink RX10 68 "PoliteHall$Sheet" ∈ CW := at_place 410 (by decide +kernel) (by decide +kernel)
theorem fq_X10_70 : FQ RX10 70 9 9 (.array (.object "PoliteHall$Sheet")) := ⟨RX10, TX10, 12, tyX10, rfl, by decide, inCX10, at_place 439 (by decide +kernel) (by decide +kernel), tyX10_ok, nmX10, rfl, fun _ => rfl⟩
theorem fq_X10_74 : FQ RX10 74 9 10 (.array .int) := ⟨RX10, TX10, 12, tyX10, rfl, by decide, inCX10, at_place 440 (by decide +kernel) (by decide +kernel), tyX10_ok, nmX10, rfl, fun _ => rfl⟩
theorem nw_X10_68 : NewW RX10 68 5 3 [.null, .int 0, .int 0] := ⟨RX6, TX6, tyX6, rfl, inCX6, tyX6_ok, at_place 410 (by decide +kernel) (by decide +kernel), inst_X6, ini_X6, df_X6⟩
theorem mi_X10_78 : MI RX10 78 yX6_init cX6_init 1 0 := ⟨Or.inr ⟨"PoliteHall", at_placeN 413 (by decide +kernel) (by decide +kernel)⟩, im_X6_init, ini_X6, cd_X6_init, rfl, by decide +kernel, by decide +kernel, by decide +kernel⟩
theorem ob_X11_3 : Cond.methodLink RX11 3 Lib.objectInit ∈ CW := at_place 1208 (by decide +kernel) (by decide +kernel)
theorem fq_X11_9 : FQ RX11 9 10 0 (.array .int) := ⟨RX11, TX11, 28, tyX11, rfl, by decide, inCX11, at_place 1217 (by decide +kernel) (by decide +kernel), tyX11_ok, nmX11, rfl, fun _ => rfl⟩
theorem fq_X11_13 : FQ RX11 13 10 1 (.array .int) := ⟨RX11, TX11, 28, tyX11, rfl, by decide, inCX11, at_place 1218 (by decide +kernel) (by decide +kernel), tyX11_ok, nmX11, rfl, fun _ => rfl⟩
theorem fq_X11_16 : FQ RX11 16 10 2 (.array .int) := ⟨RX11, TX11, 28, tyX11, rfl, by decide, inCX11, at_place 1219 (by decide +kernel) (by decide +kernel), tyX11_ok, nmX11, rfl, fun _ => rfl⟩
theorem fq_X11_19 : FQ RX11 19 10 4 (.array .int) := ⟨RX11, TX11, 28, tyX11, rfl, by decide, inCX11, at_place 1221 (by decide +kernel) (by decide +kernel), tyX11_ok, nmX11, rfl, fun _ => rfl⟩
theorem cl_X11_22 : Cond.classLink RX11 22 "java/lang/String" ∈ CW := at_place 1209 (by decide +kernel) (by decide +kernel)
theorem fq_X11_36 : FQ RX11 36 10 5 (.array (.object "java/lang/String")) := ⟨RX11, TX11, 28, tyX11, rfl, by decide, inCX11, at_place 1222 (by decide +kernel) (by decide +kernel), tyX11_ok, nmX11, rfl, fun _ => rfl⟩
theorem fq_X11_40 : FQ RX11 40 10 9 (.array .int) := ⟨RX11, TX11, 28, tyX11, rfl, by decide, inCX11, at_place 1226 (by decide +kernel) (by decide +kernel), tyX11_ok, nmX11, rfl, fun _ => rfl⟩
theorem fq_X11_43 : FQ RX11 43 10 10 (.array .int) := ⟨RX11, TX11, 28, tyX11, rfl, by decide, inCX11, at_place 1227 (by decide +kernel) (by decide +kernel), tyX11_ok, nmX11, rfl, fun _ => rfl⟩
theorem fq_X11_46 : FQ RX11 46 10 11 (.array .int) := ⟨RX11, TX11, 28, tyX11, rfl, by decide, inCX11, at_place 1228 (by decide +kernel) (by decide +kernel), tyX11_ok, nmX11, rfl, fun _ => rfl⟩
theorem fq_X11_49 : FQ RX11 49 10 13 (.array .int) := ⟨RX11, TX11, 28, tyX11, rfl, by decide, inCX11, at_place 1230 (by decide +kernel) (by decide +kernel), tyX11_ok, nmX11, rfl, fun _ => rfl⟩
theorem fq_X11_52 : FQ RX11 52 10 15 (.array .int) := ⟨RX11, TX11, 28, tyX11, rfl, by decide, inCX11, at_place 1232 (by decide +kernel) (by decide +kernel), tyX11_ok, nmX11, rfl, fun _ => rfl⟩
theorem fq_X11_55 : FQ RX11 55 10 16 (.array .int) := ⟨RX11, TX11, 28, tyX11, rfl, by decide, inCX11, at_place 1233 (by decide +kernel) (by decide +kernel), tyX11_ok, nmX11, rfl, fun _ => rfl⟩
theorem fq_X11_58 : FQ RX11 58 10 17 (.array .int) := ⟨RX11, TX11, 28, tyX11, rfl, by decide, inCX11, at_place 1234 (by decide +kernel) (by decide +kernel), tyX11_ok, nmX11, rfl, fun _ => rfl⟩
theorem fq_X11_61 : FQ RX11 61 10 18 (.array .int) := ⟨RX11, TX11, 28, tyX11, rfl, by decide, inCX11, at_place 1235 (by decide +kernel) (by decide +kernel), tyX11_ok, nmX11, rfl, fun _ => rfl⟩
theorem fq_X11_64 : FQ RX11 64 10 19 (.array .int) := ⟨RX11, TX11, 28, tyX11, rfl, by decide, inCX11, at_place 1236 (by decide +kernel) (by decide +kernel), tyX11_ok, nmX11, rfl, fun _ => rfl⟩
theorem fq_X11_67 : FQ RX11 67 10 20 (.array .int) := ⟨RX11, TX11, 28, tyX11, rfl, by decide, inCX11, at_place 1237 (by decide +kernel) (by decide +kernel), tyX11_ok, nmX11, rfl, fun _ => rfl⟩
theorem fq_X11_70 : FQ RX11 70 10 24 (.array .int) := ⟨RX11, TX11, 28, tyX11, rfl, by decide, inCX11, at_place 1241 (by decide +kernel) (by decide +kernel), tyX11_ok, nmX11, rfl, fun _ => rfl⟩
theorem fq_X11_73 : FQ RX11 73 10 25 (.array .int) := ⟨RX11, TX11, 28, tyX11, rfl, by decide, inCX11, at_place 1242 (by decide +kernel) (by decide +kernel), tyX11_ok, nmX11, rfl, fun _ => rfl⟩
theorem fq_X11_76 : FQ RX11 76 10 26 (.array .int) := ⟨RX11, TX11, 28, tyX11, rfl, by decide, inCX11, at_place 1243 (by decide +kernel) (by decide +kernel), tyX11_ok, nmX11, rfl, fun _ => rfl⟩
theorem fq_X11_79 : FQ RX11 79 10 27 (.array .int) := ⟨RX11, TX11, 28, tyX11, rfl, by decide, inCX11, at_place 1244 (by decide +kernel) (by decide +kernel), tyX11_ok, nmX11, rfl, fun _ => rfl⟩
theorem nw_L_7 : NewW RL 7 9 12 [.null, .null, .null, .null, .null, .null, .null, .null, .null, .null, .null, .int 0] := ⟨RX10, TX10, tyX10, rfl, inCX10, tyX10_ok, at_place 104 (by decide +kernel) (by decide +kernel), inst_X10, ini_X10, df_X10⟩
theorem mi_L_9 : MI RL 9 yX10_init cX10_init 2 0 := ⟨Or.inl (at_place 106 (by decide +kernel) (by decide +kernel)), im_X10_init, ini_X10, cd_X10_init, rfl, by decide +kernel, by decide +kernel, by decide +kernel⟩
theorem nw_L_10 : NewW RL 10 10 28 [.null, .null, .null, .int 0, .null, .null, .int 0, .int 0, .int 0, .null, .null, .null, .int 0, .null, .int 0, .null, .null, .null, .null, .null, .null, .int 0, .int 0, .int 0, .null, .null, .null, .null] := ⟨RX11, TX11, tyX11, rfl, inCX11, tyX11_ok, at_place 1203 (by decide +kernel) (by decide +kernel), inst_X11, ini_X11, df_X11⟩
theorem mi_L_12 : MI RL 12 yX11_init cX11_init 1 0 := ⟨Or.inl (at_place 1205 (by decide +kernel) (by decide +kernel)), im_X11_init, ini_X11, cd_X11_init, rfl, by decide +kernel, by decide +kernel, by decide +kernel⟩
